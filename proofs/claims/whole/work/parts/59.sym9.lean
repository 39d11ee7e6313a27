-- ===== the methods run symbolically, 9 (by program: wip/whole/gen_sym.py) =====
/-- Sheet.begin(II)V, from 0 -/
theorem S223_81_0 {X : Nat × (Int → Int)} {h : HP} {Q : bQ} (x1 : Int) (x2 : Int) (H : ((60 < x2 → Wp X 1 223 21 [vr 81, vi x1, vi x2, vi 0] [] (upd2 (upd2 h 81 1 x1) 81 2 60) Q) ∧ (x2 ≤ 60 → ((0 < x2 → Wp X 1 223 21 [vr 81, vi x1, vi x2, vi 0] [] (upd2 (upd2 h 81 1 x1) 81 2 x2) Q) ∧ (x2 ≤ 0 → Wp X 1 223 21 [vr 81, vi x1, vi x2, vi 0] [] (upd2 (upd2 h 81 1 x1) 81 2 0) Q))))) : Wp X 1 223 0 [vr 81, vi x1, vi x2, vu] [] h Q := by
  refine wp_aload rfl rfl ?_
  refine wp_iload rfl rfl ?_
  refine wp_putI (j := 1) rfl (congrArg Prod.fst (kf_81 X.1)) rfl rfl rfl ?_
  refine wp_aload rfl rfl ?_
  refine wp_iconst rfl ?_
  refine wp_iload rfl rfl ?_
  refine wp_iconst rfl ?_
  refine wp_call (k := 253) (ρ2 := 0) (L2 := [vi x2, vi 60]) rfl rfl rfl (Nat.le_of_ble_eq_true rfl) (Nat.le_of_ble_eq_true rfl) (Nat.le_of_ble_eq_true rfl) (rcv_S rfl) rfl ?_
  refine wp_iload rfl rfl ?_
  refine wp_iload rfl rfl ?_
  refine wp_icgt (tn := 9) rfl rfl (fun c1 => ?_) (fun c1 => ?_)
  · replace H := H.1 c1
    refine wp_iload rfl rfl ?_
    refine wp_iret rfl rfl ?_
    show Wp X _ 223 13 [vr 81, vi x1, vi x2, vu] [vi 60, vi 0, vr 81] _ _
    refine wp_call (k := 252) (ρ2 := 0) (L2 := [vi 0, vi 60]) rfl rfl rfl (Nat.le_of_ble_eq_true rfl) (Nat.le_of_ble_eq_true rfl) (Nat.le_of_ble_eq_true rfl) (rcv_S rfl) rfl ?_
    refine wp_iload rfl rfl ?_
    refine wp_iload rfl rfl ?_
    refine wp_icltT (tn := 9) rfl rfl (by decide) ?_
    refine wp_iload rfl rfl ?_
    refine wp_iret rfl rfl ?_
    show Wp X _ 223 16 [vr 81, vi x1, vi x2, vu] [vi 60, vr 81] _ _
    refine wp_putI (j := 2) rfl (congrArg Prod.fst (kf_81 X.1)) rfl rfl rfl ?_
    refine wp_iconst rfl ?_
    refine wp_istore (L2 := [vr 81, vi x1, vi x2, vi 0]) rfl (Nat.le_of_ble_eq_true rfl) rfl ?_
    exact H
  · replace H := H.2 c1
    refine wp_iload rfl rfl ?_
    refine wp_goto (tn := 10) rfl rfl ?_
    refine wp_iret rfl rfl ?_
    show Wp X _ 223 13 [vr 81, vi x1, vi x2, vu] [vi x2, vi 0, vr 81] _ _
    refine wp_call (k := 252) (ρ2 := 0) (L2 := [vi 0, vi x2]) rfl rfl rfl (Nat.le_of_ble_eq_true rfl) (Nat.le_of_ble_eq_true rfl) (Nat.le_of_ble_eq_true rfl) (rcv_S rfl) rfl ?_
    refine wp_iload rfl rfl ?_
    refine wp_iload rfl rfl ?_
    refine wp_iclt (tn := 9) rfl rfl (fun c2 => ?_) (fun c2 => ?_)
    · replace H := H.1 c2
      refine wp_iload rfl rfl ?_
      refine wp_iret rfl rfl ?_
      show Wp X _ 223 16 [vr 81, vi x1, vi x2, vu] [vi x2, vr 81] _ _
      refine wp_putI (j := 2) rfl (congrArg Prod.fst (kf_81 X.1)) rfl rfl rfl ?_
      refine wp_iconst rfl ?_
      refine wp_istore (L2 := [vr 81, vi x1, vi x2, vi 0]) rfl (Nat.le_of_ble_eq_true rfl) rfl ?_
      exact H
    · replace H := H.2 c2
      refine wp_iload rfl rfl ?_
      refine wp_goto (tn := 10) rfl rfl ?_
      refine wp_iret rfl rfl ?_
      show Wp X _ 223 16 [vr 81, vi x1, vi x2, vu] [vi 0, vr 81] _ _
      refine wp_putI (j := 2) rfl (congrArg Prod.fst (kf_81 X.1)) rfl rfl rfl ?_
      refine wp_iconst rfl ?_
      refine wp_istore (L2 := [vr 81, vi x1, vi x2, vi 0]) rfl (Nat.le_of_ble_eq_true rfl) rfl ?_
      exact H
/-- Sheet.begin(II)V, from 21 -/
theorem S223_81_21 {X : Nat × (Int → Int)} {h : HP} {Q : bQ} (zx1 : aV) (zx2 : aV) (x3 : Int) (H : (((h 81 2) ≤ x3 → Q none h) ∧ (x3 < (h 81 2) → ((0 ≤ x3 ∧ x3 < 60) ∧ Wp X 1 223 21 [vr 81, zx1, (clr1 zx2), vi (x3 + 1)] [] (upd2 h 82 x3 0) Q)))) : Wp X 1 223 21 [vr 81, zx1, zx2, vi x3] [] h Q := by
  refine wp_iload rfl rfl ?_
  refine wp_aload rfl rfl ?_
  refine wp_getI (j := 2) rfl (congrArg Prod.fst (kf_81 X.1)) rfl ?_
  refine wp_icge (tn := 42) rfl rfl (fun c1 => ?_) (fun c1 => ?_)
  · replace H := H.1 c1
    exact wp_vret rfl rfl H
  · replace H := H.2 c1
    refine wp_aload rfl rfl ?_
    refine wp_getR (r := 81) rfl (congrArg Prod.fst (kf_81 X.1)) rfl ?_
    refine wp_iload rfl rfl ?_
    refine wp_iconst rfl ?_
    have g2 := H.1
    replace H := H.2
    refine wp_iastore rfl (kf_82 X.1) g2 ?_
    refine wp_iincR (L2 := [vr 81, zx1, (clr1 zx2), vi (x3 + 1)]) rfl rfl (by clear H; unfold R32; omega) rfl ?_
    refine wp_goto (tn := 21) rfl rfl ?_
    exact H
/-- Sheet.begin(II)V, from 0 -/
theorem S223_83_0 {X : Nat × (Int → Int)} {h : HP} {Q : bQ} (x1 : Int) (x2 : Int) (H : ((60 < x2 → Wp X 1 223 21 [vr 83, vi x1, vi x2, vi 0] [] (upd2 (upd2 h 83 1 x1) 83 2 60) Q) ∧ (x2 ≤ 60 → ((0 < x2 → Wp X 1 223 21 [vr 83, vi x1, vi x2, vi 0] [] (upd2 (upd2 h 83 1 x1) 83 2 x2) Q) ∧ (x2 ≤ 0 → Wp X 1 223 21 [vr 83, vi x1, vi x2, vi 0] [] (upd2 (upd2 h 83 1 x1) 83 2 0) Q))))) : Wp X 1 223 0 [vr 83, vi x1, vi x2, vu] [] h Q := by
  refine wp_aload rfl rfl ?_
  refine wp_iload rfl rfl ?_
  refine wp_putI (j := 1) rfl (congrArg Prod.fst (kf_83 X.1)) rfl rfl rfl ?_
  refine wp_aload rfl rfl ?_
  refine wp_iconst rfl ?_
  refine wp_iload rfl rfl ?_
  refine wp_iconst rfl ?_
  refine wp_call (k := 253) (ρ2 := 0) (L2 := [vi x2, vi 60]) rfl rfl rfl (Nat.le_of_ble_eq_true rfl) (Nat.le_of_ble_eq_true rfl) (Nat.le_of_ble_eq_true rfl) (rcv_S rfl) rfl ?_
  refine wp_iload rfl rfl ?_
  refine wp_iload rfl rfl ?_
  refine wp_icgt (tn := 9) rfl rfl (fun c1 => ?_) (fun c1 => ?_)
  · replace H := H.1 c1
    refine wp_iload rfl rfl ?_
    refine wp_iret rfl rfl ?_
    show Wp X _ 223 13 [vr 83, vi x1, vi x2, vu] [vi 60, vi 0, vr 83] _ _
    refine wp_call (k := 252) (ρ2 := 0) (L2 := [vi 0, vi 60]) rfl rfl rfl (Nat.le_of_ble_eq_true rfl) (Nat.le_of_ble_eq_true rfl) (Nat.le_of_ble_eq_true rfl) (rcv_S rfl) rfl ?_
    refine wp_iload rfl rfl ?_
    refine wp_iload rfl rfl ?_
    refine wp_icltT (tn := 9) rfl rfl (by decide) ?_
    refine wp_iload rfl rfl ?_
    refine wp_iret rfl rfl ?_
    show Wp X _ 223 16 [vr 83, vi x1, vi x2, vu] [vi 60, vr 83] _ _
    refine wp_putI (j := 2) rfl (congrArg Prod.fst (kf_83 X.1)) rfl rfl rfl ?_
    refine wp_iconst rfl ?_
    refine wp_istore (L2 := [vr 83, vi x1, vi x2, vi 0]) rfl (Nat.le_of_ble_eq_true rfl) rfl ?_
    exact H
  · replace H := H.2 c1
    refine wp_iload rfl rfl ?_
    refine wp_goto (tn := 10) rfl rfl ?_
    refine wp_iret rfl rfl ?_
    show Wp X _ 223 13 [vr 83, vi x1, vi x2, vu] [vi x2, vi 0, vr 83] _ _
    refine wp_call (k := 252) (ρ2 := 0) (L2 := [vi 0, vi x2]) rfl rfl rfl (Nat.le_of_ble_eq_true rfl) (Nat.le_of_ble_eq_true rfl) (Nat.le_of_ble_eq_true rfl) (rcv_S rfl) rfl ?_
    refine wp_iload rfl rfl ?_
    refine wp_iload rfl rfl ?_
    refine wp_iclt (tn := 9) rfl rfl (fun c2 => ?_) (fun c2 => ?_)
    · replace H := H.1 c2
      refine wp_iload rfl rfl ?_
      refine wp_iret rfl rfl ?_
      show Wp X _ 223 16 [vr 83, vi x1, vi x2, vu] [vi x2, vr 83] _ _
      refine wp_putI (j := 2) rfl (congrArg Prod.fst (kf_83 X.1)) rfl rfl rfl ?_
      refine wp_iconst rfl ?_
      refine wp_istore (L2 := [vr 83, vi x1, vi x2, vi 0]) rfl (Nat.le_of_ble_eq_true rfl) rfl ?_
      exact H
    · replace H := H.2 c2
      refine wp_iload rfl rfl ?_
      refine wp_goto (tn := 10) rfl rfl ?_
      refine wp_iret rfl rfl ?_
      show Wp X _ 223 16 [vr 83, vi x1, vi x2, vu] [vi 0, vr 83] _ _
      refine wp_putI (j := 2) rfl (congrArg Prod.fst (kf_83 X.1)) rfl rfl rfl ?_
      refine wp_iconst rfl ?_
      refine wp_istore (L2 := [vr 83, vi x1, vi x2, vi 0]) rfl (Nat.le_of_ble_eq_true rfl) rfl ?_
      exact H
/-- Sheet.begin(II)V, from 21 -/
theorem S223_83_21 {X : Nat × (Int → Int)} {h : HP} {Q : bQ} (zx1 : aV) (zx2 : aV) (x3 : Int) (H : (((h 83 2) ≤ x3 → Q none h) ∧ (x3 < (h 83 2) → ((0 ≤ x3 ∧ x3 < 60) ∧ Wp X 1 223 21 [vr 83, zx1, (clr1 zx2), vi (x3 + 1)] [] (upd2 h 84 x3 0) Q)))) : Wp X 1 223 21 [vr 83, zx1, zx2, vi x3] [] h Q := by
  refine wp_iload rfl rfl ?_
  refine wp_aload rfl rfl ?_
  refine wp_getI (j := 2) rfl (congrArg Prod.fst (kf_83 X.1)) rfl ?_
  refine wp_icge (tn := 42) rfl rfl (fun c1 => ?_) (fun c1 => ?_)
  · replace H := H.1 c1
    exact wp_vret rfl rfl H
  · replace H := H.2 c1
    refine wp_aload rfl rfl ?_
    refine wp_getR (r := 83) rfl (congrArg Prod.fst (kf_83 X.1)) rfl ?_
    refine wp_iload rfl rfl ?_
    refine wp_iconst rfl ?_
    have g2 := H.1
    replace H := H.2
    refine wp_iastore rfl (kf_84 X.1) g2 ?_
    refine wp_iincR (L2 := [vr 83, zx1, (clr1 zx2), vi (x3 + 1)]) rfl rfl (by clear H; unfold R32; omega) rfl ?_
    refine wp_goto (tn := 21) rfl rfl ?_
    exact H
/-- Sheet.begin(II)V, from 0 -/
theorem S223_85_0 {X : Nat × (Int → Int)} {h : HP} {Q : bQ} (x1 : Int) (x2 : Int) (H : ((60 < x2 → Wp X 1 223 21 [vr 85, vi x1, vi x2, vi 0] [] (upd2 (upd2 h 85 1 x1) 85 2 60) Q) ∧ (x2 ≤ 60 → ((0 < x2 → Wp X 1 223 21 [vr 85, vi x1, vi x2, vi 0] [] (upd2 (upd2 h 85 1 x1) 85 2 x2) Q) ∧ (x2 ≤ 0 → Wp X 1 223 21 [vr 85, vi x1, vi x2, vi 0] [] (upd2 (upd2 h 85 1 x1) 85 2 0) Q))))) : Wp X 1 223 0 [vr 85, vi x1, vi x2, vu] [] h Q := by
  refine wp_aload rfl rfl ?_
  refine wp_iload rfl rfl ?_
  refine wp_putI (j := 1) rfl (congrArg Prod.fst (kf_85 X.1)) rfl rfl rfl ?_
  refine wp_aload rfl rfl ?_
  refine wp_iconst rfl ?_
  refine wp_iload rfl rfl ?_
  refine wp_iconst rfl ?_
  refine wp_call (k := 253) (ρ2 := 0) (L2 := [vi x2, vi 60]) rfl rfl rfl (Nat.le_of_ble_eq_true rfl) (Nat.le_of_ble_eq_true rfl) (Nat.le_of_ble_eq_true rfl) (rcv_S rfl) rfl ?_
  refine wp_iload rfl rfl ?_
  refine wp_iload rfl rfl ?_
  refine wp_icgt (tn := 9) rfl rfl (fun c1 => ?_) (fun c1 => ?_)
  · replace H := H.1 c1
    refine wp_iload rfl rfl ?_
    refine wp_iret rfl rfl ?_
    show Wp X _ 223 13 [vr 85, vi x1, vi x2, vu] [vi 60, vi 0, vr 85] _ _
    refine wp_call (k := 252) (ρ2 := 0) (L2 := [vi 0, vi 60]) rfl rfl rfl (Nat.le_of_ble_eq_true rfl) (Nat.le_of_ble_eq_true rfl) (Nat.le_of_ble_eq_true rfl) (rcv_S rfl) rfl ?_
    refine wp_iload rfl rfl ?_
    refine wp_iload rfl rfl ?_
    refine wp_icltT (tn := 9) rfl rfl (by decide) ?_
    refine wp_iload rfl rfl ?_
    refine wp_iret rfl rfl ?_
    show Wp X _ 223 16 [vr 85, vi x1, vi x2, vu] [vi 60, vr 85] _ _
    refine wp_putI (j := 2) rfl (congrArg Prod.fst (kf_85 X.1)) rfl rfl rfl ?_
    refine wp_iconst rfl ?_
    refine wp_istore (L2 := [vr 85, vi x1, vi x2, vi 0]) rfl (Nat.le_of_ble_eq_true rfl) rfl ?_
    exact H
  · replace H := H.2 c1
    refine wp_iload rfl rfl ?_
    refine wp_goto (tn := 10) rfl rfl ?_
    refine wp_iret rfl rfl ?_
    show Wp X _ 223 13 [vr 85, vi x1, vi x2, vu] [vi x2, vi 0, vr 85] _ _
    refine wp_call (k := 252) (ρ2 := 0) (L2 := [vi 0, vi x2]) rfl rfl rfl (Nat.le_of_ble_eq_true rfl) (Nat.le_of_ble_eq_true rfl) (Nat.le_of_ble_eq_true rfl) (rcv_S rfl) rfl ?_
    refine wp_iload rfl rfl ?_
    refine wp_iload rfl rfl ?_
    refine wp_iclt (tn := 9) rfl rfl (fun c2 => ?_) (fun c2 => ?_)
    · replace H := H.1 c2
      refine wp_iload rfl rfl ?_
      refine wp_iret rfl rfl ?_
      show Wp X _ 223 16 [vr 85, vi x1, vi x2, vu] [vi x2, vr 85] _ _
      refine wp_putI (j := 2) rfl (congrArg Prod.fst (kf_85 X.1)) rfl rfl rfl ?_
      refine wp_iconst rfl ?_
      refine wp_istore (L2 := [vr 85, vi x1, vi x2, vi 0]) rfl (Nat.le_of_ble_eq_true rfl) rfl ?_
      exact H
    · replace H := H.2 c2
      refine wp_iload rfl rfl ?_
      refine wp_goto (tn := 10) rfl rfl ?_
      refine wp_iret rfl rfl ?_
      show Wp X _ 223 16 [vr 85, vi x1, vi x2, vu] [vi 0, vr 85] _ _
      refine wp_putI (j := 2) rfl (congrArg Prod.fst (kf_85 X.1)) rfl rfl rfl ?_
      refine wp_iconst rfl ?_
      refine wp_istore (L2 := [vr 85, vi x1, vi x2, vi 0]) rfl (Nat.le_of_ble_eq_true rfl) rfl ?_
      exact H
/-- Sheet.begin(II)V, from 21 -/
theorem S223_85_21 {X : Nat × (Int → Int)} {h : HP} {Q : bQ} (zx1 : aV) (zx2 : aV) (x3 : Int) (H : (((h 85 2) ≤ x3 → Q none h) ∧ (x3 < (h 85 2) → ((0 ≤ x3 ∧ x3 < 60) ∧ Wp X 1 223 21 [vr 85, zx1, (clr1 zx2), vi (x3 + 1)] [] (upd2 h 86 x3 0) Q)))) : Wp X 1 223 21 [vr 85, zx1, zx2, vi x3] [] h Q := by
  refine wp_iload rfl rfl ?_
  refine wp_aload rfl rfl ?_
  refine wp_getI (j := 2) rfl (congrArg Prod.fst (kf_85 X.1)) rfl ?_
  refine wp_icge (tn := 42) rfl rfl (fun c1 => ?_) (fun c1 => ?_)
  · replace H := H.1 c1
    exact wp_vret rfl rfl H
  · replace H := H.2 c1
    refine wp_aload rfl rfl ?_
    refine wp_getR (r := 85) rfl (congrArg Prod.fst (kf_85 X.1)) rfl ?_
    refine wp_iload rfl rfl ?_
    refine wp_iconst rfl ?_
    have g2 := H.1
    replace H := H.2
    refine wp_iastore rfl (kf_86 X.1) g2 ?_
    refine wp_iincR (L2 := [vr 85, zx1, (clr1 zx2), vi (x3 + 1)]) rfl rfl (by clear H; unfold R32; omega) rfl ?_
    refine wp_goto (tn := 21) rfl rfl ?_
    exact H
/-- Sheet.begin(II)V, from 0 -/
theorem S223_87_0 {X : Nat × (Int → Int)} {h : HP} {Q : bQ} (x1 : Int) (x2 : Int) (H : ((60 < x2 → Wp X 1 223 21 [vr 87, vi x1, vi x2, vi 0] [] (upd2 (upd2 h 87 1 x1) 87 2 60) Q) ∧ (x2 ≤ 60 → ((0 < x2 → Wp X 1 223 21 [vr 87, vi x1, vi x2, vi 0] [] (upd2 (upd2 h 87 1 x1) 87 2 x2) Q) ∧ (x2 ≤ 0 → Wp X 1 223 21 [vr 87, vi x1, vi x2, vi 0] [] (upd2 (upd2 h 87 1 x1) 87 2 0) Q))))) : Wp X 1 223 0 [vr 87, vi x1, vi x2, vu] [] h Q := by
  refine wp_aload rfl rfl ?_
  refine wp_iload rfl rfl ?_
  refine wp_putI (j := 1) rfl (congrArg Prod.fst (kf_87 X.1)) rfl rfl rfl ?_
  refine wp_aload rfl rfl ?_
  refine wp_iconst rfl ?_
  refine wp_iload rfl rfl ?_
  refine wp_iconst rfl ?_
  refine wp_call (k := 253) (ρ2 := 0) (L2 := [vi x2, vi 60]) rfl rfl rfl (Nat.le_of_ble_eq_true rfl) (Nat.le_of_ble_eq_true rfl) (Nat.le_of_ble_eq_true rfl) (rcv_S rfl) rfl ?_
  refine wp_iload rfl rfl ?_
  refine wp_iload rfl rfl ?_
  refine wp_icgt (tn := 9) rfl rfl (fun c1 => ?_) (fun c1 => ?_)
  · replace H := H.1 c1
    refine wp_iload rfl rfl ?_
    refine wp_iret rfl rfl ?_
    show Wp X _ 223 13 [vr 87, vi x1, vi x2, vu] [vi 60, vi 0, vr 87] _ _
    refine wp_call (k := 252) (ρ2 := 0) (L2 := [vi 0, vi 60]) rfl rfl rfl (Nat.le_of_ble_eq_true rfl) (Nat.le_of_ble_eq_true rfl) (Nat.le_of_ble_eq_true rfl) (rcv_S rfl) rfl ?_
    refine wp_iload rfl rfl ?_
    refine wp_iload rfl rfl ?_
    refine wp_icltT (tn := 9) rfl rfl (by decide) ?_
    refine wp_iload rfl rfl ?_
    refine wp_iret rfl rfl ?_
    show Wp X _ 223 16 [vr 87, vi x1, vi x2, vu] [vi 60, vr 87] _ _
    refine wp_putI (j := 2) rfl (congrArg Prod.fst (kf_87 X.1)) rfl rfl rfl ?_
    refine wp_iconst rfl ?_
    refine wp_istore (L2 := [vr 87, vi x1, vi x2, vi 0]) rfl (Nat.le_of_ble_eq_true rfl) rfl ?_
    exact H
  · replace H := H.2 c1
    refine wp_iload rfl rfl ?_
    refine wp_goto (tn := 10) rfl rfl ?_
    refine wp_iret rfl rfl ?_
    show Wp X _ 223 13 [vr 87, vi x1, vi x2, vu] [vi x2, vi 0, vr 87] _ _
    refine wp_call (k := 252) (ρ2 := 0) (L2 := [vi 0, vi x2]) rfl rfl rfl (Nat.le_of_ble_eq_true rfl) (Nat.le_of_ble_eq_true rfl) (Nat.le_of_ble_eq_true rfl) (rcv_S rfl) rfl ?_
    refine wp_iload rfl rfl ?_
    refine wp_iload rfl rfl ?_
    refine wp_iclt (tn := 9) rfl rfl (fun c2 => ?_) (fun c2 => ?_)
    · replace H := H.1 c2
      refine wp_iload rfl rfl ?_
      refine wp_iret rfl rfl ?_
      show Wp X _ 223 16 [vr 87, vi x1, vi x2, vu] [vi x2, vr 87] _ _
      refine wp_putI (j := 2) rfl (congrArg Prod.fst (kf_87 X.1)) rfl rfl rfl ?_
      refine wp_iconst rfl ?_
      refine wp_istore (L2 := [vr 87, vi x1, vi x2, vi 0]) rfl (Nat.le_of_ble_eq_true rfl) rfl ?_
      exact H
    · replace H := H.2 c2
      refine wp_iload rfl rfl ?_
      refine wp_goto (tn := 10) rfl rfl ?_
      refine wp_iret rfl rfl ?_
      show Wp X _ 223 16 [vr 87, vi x1, vi x2, vu] [vi 0, vr 87] _ _
      refine wp_putI (j := 2) rfl (congrArg Prod.fst (kf_87 X.1)) rfl rfl rfl ?_
      refine wp_iconst rfl ?_
      refine wp_istore (L2 := [vr 87, vi x1, vi x2, vi 0]) rfl (Nat.le_of_ble_eq_true rfl) rfl ?_
      exact H
/-- Sheet.begin(II)V, from 21 -/
theorem S223_87_21 {X : Nat × (Int → Int)} {h : HP} {Q : bQ} (zx1 : aV) (zx2 : aV) (x3 : Int) (H : (((h 87 2) ≤ x3 → Q none h) ∧ (x3 < (h 87 2) → ((0 ≤ x3 ∧ x3 < 60) ∧ Wp X 1 223 21 [vr 87, zx1, (clr1 zx2), vi (x3 + 1)] [] (upd2 h 88 x3 0) Q)))) : Wp X 1 223 21 [vr 87, zx1, zx2, vi x3] [] h Q := by
  refine wp_iload rfl rfl ?_
  refine wp_aload rfl rfl ?_
  refine wp_getI (j := 2) rfl (congrArg Prod.fst (kf_87 X.1)) rfl ?_
  refine wp_icge (tn := 42) rfl rfl (fun c1 => ?_) (fun c1 => ?_)
  · replace H := H.1 c1
    exact wp_vret rfl rfl H
  · replace H := H.2 c1
    refine wp_aload rfl rfl ?_
    refine wp_getR (r := 87) rfl (congrArg Prod.fst (kf_87 X.1)) rfl ?_
    refine wp_iload rfl rfl ?_
    refine wp_iconst rfl ?_
    have g2 := H.1
    replace H := H.2
    refine wp_iastore rfl (kf_88 X.1) g2 ?_
    refine wp_iincR (L2 := [vr 87, zx1, (clr1 zx2), vi (x3 + 1)]) rfl rfl (by clear H; unfold R32; omega) rfl ?_
    refine wp_goto (tn := 21) rfl rfl ?_
    exact H
/-- Sums.run(L$Row;L$Lines;I)V, from 0 -/
theorem S231_74_37_36_0 {X : Nat × (Int → Int)} {h : HP} {Q : bQ} (x3 : Int) (H : ((R32 (60 * (h 36 0))) ∧ ((R32 (x3 * (60 * (h 36 0)))) ∧ ((20 < (h 37 6) → Wp X 2 231 30 [vr 74, vr 37, vr 36, vi x3, vi (x3 * (60 * (h 36 0))), vi 0, vi 0, vi 0, vu] [] (upd2 h 74 2 20) Q) ∧ ((h 37 6) ≤ 20 → Wp X 2 231 30 [vr 74, vr 37, vr 36, vi x3, vi (x3 * (60 * (h 36 0))), vi 0, vi 0, vi 0, vu] [] (upd2 h 74 2 (h 37 6)) Q))))) : Wp X 2 231 0 [vr 74, vr 37, vr 36, vi x3, vu, vu, vu, vu, vu] [] h Q := by
  refine wp_iload rfl rfl ?_
  refine wp_aload rfl rfl ?_
  refine wp_call (k := 162) (ρ2 := 0) (L2 := [vr 36]) rfl rfl rfl (Nat.le_of_ble_eq_true rfl) (Nat.le_of_ble_eq_true rfl) (Nat.le_of_ble_eq_true rfl) (rcv_V rfl (congrArg Prod.fst (kf_36 X.1))) rfl ?_
  refine wp_iconst rfl ?_
  refine wp_aload rfl rfl ?_
  refine wp_getI (j := 0) rfl (congrArg Prod.fst (kf_36 X.1)) rfl ?_
  refine wp_imul rfl ?_
  have g1 := H.1
  replace H := H.2
  refine Wp.topI (y := (60 * (h 36 0))) (w32_I g1) ?_
  refine wp_iret rfl rfl ?_
  show Wp X _ 231 5 [vr 74, vr 37, vr 36, vi x3, vu, vu, vu, vu, vu] [vi (60 * (h 36 0)), vi x3] _ _
  refine wp_imul rfl ?_
  have g2 := H.1
  replace H := H.2
  refine Wp.topI (y := (x3 * (60 * (h 36 0)))) (w32_I g2) ?_
  refine wp_istore (L2 := [vr 74, vr 37, vr 36, vi x3, vi (x3 * (60 * (h 36 0))), vu, vu, vu, vu]) rfl (Nat.le_of_ble_eq_true rfl) rfl ?_
  refine wp_iconst rfl ?_
  refine wp_istore (L2 := [vr 74, vr 37, vr 36, vi x3, vi (x3 * (60 * (h 36 0))), vi 0, vu, vu, vu]) rfl (Nat.le_of_ble_eq_true rfl) rfl ?_
  refine wp_iconst rfl ?_
  refine wp_istore (L2 := [vr 74, vr 37, vr 36, vi x3, vi (x3 * (60 * (h 36 0))), vi 0, vi 0, vu, vu]) rfl (Nat.le_of_ble_eq_true rfl) rfl ?_
  refine wp_aload rfl rfl ?_
  refine wp_aload rfl rfl ?_
  refine wp_call (k := 188) (ρ2 := 0) (L2 := [vr 37]) rfl rfl rfl (Nat.le_of_ble_eq_true rfl) (Nat.le_of_ble_eq_true rfl) (Nat.le_of_ble_eq_true rfl) (rcv_V rfl (congrArg Prod.fst (kf_37 X.1))) rfl ?_
  refine wp_aload rfl rfl ?_
  refine wp_getI (j := 6) rfl (congrArg Prod.fst (kf_37 X.1)) rfl ?_
  refine wp_iret rfl rfl ?_
  show Wp X _ 231 19 [vr 74, vr 37, vr 36, vi x3, vi (x3 * (60 * (h 36 0))), vi 0, vi 0, vu, vu] [vi (h 37 6), vr 74] _ _
  refine wp_iconst rfl ?_
  refine wp_call (k := 253) (ρ2 := 0) (L2 := [vi (h 37 6), vi 20]) rfl rfl rfl (Nat.le_of_ble_eq_true rfl) (Nat.le_of_ble_eq_true rfl) (Nat.le_of_ble_eq_true rfl) (rcv_S rfl) rfl ?_
  refine wp_iload rfl rfl ?_
  refine wp_iload rfl rfl ?_
  refine wp_icgt (tn := 9) rfl rfl (fun c3 => ?_) (fun c3 => ?_)
  · replace H := H.1 c3
    refine wp_iload rfl rfl ?_
    refine wp_iret rfl rfl ?_
    show Wp X _ 231 24 [vr 74, vr 37, vr 36, vi x3, vi (x3 * (60 * (h 36 0))), vi 0, vi 0, vu, vu] [vi 20, vr 74] _ _
    refine wp_putI (j := 2) rfl (congrArg Prod.fst (kf_74 X.1)) rfl rfl rfl ?_
    refine wp_iconst rfl ?_
    refine wp_istore (L2 := [vr 74, vr 37, vr 36, vi x3, vi (x3 * (60 * (h 36 0))), vi 0, vi 0, vi 0, vu]) rfl (Nat.le_of_ble_eq_true rfl) rfl ?_
    exact H
  · replace H := H.2 c3
    refine wp_iload rfl rfl ?_
    refine wp_goto (tn := 10) rfl rfl ?_
    refine wp_iret rfl rfl ?_
    show Wp X _ 231 24 [vr 74, vr 37, vr 36, vi x3, vi (x3 * (60 * (h 36 0))), vi 0, vi 0, vu, vu] [vi (h 37 6), vr 74] _ _
    refine wp_putI (j := 2) rfl (congrArg Prod.fst (kf_74 X.1)) rfl rfl rfl ?_
    refine wp_iconst rfl ?_
    refine wp_istore (L2 := [vr 74, vr 37, vr 36, vi x3, vi (x3 * (60 * (h 36 0))), vi 0, vi 0, vi 0, vu]) rfl (Nat.le_of_ble_eq_true rfl) rfl ?_
    exact H
/-- Sums.run(L$Row;L$Lines;I)V, from 30 -/
theorem S231_74_37_36_30 {X : Nat × (Int → Int)} {h : HP} {Q : bQ} (zx3 : aV) (x4 : Int) (x5 : Int) (x6 : Int) (x7 : Int) (zx8 : aV) (H : (((h 74 2) ≤ x7 → Q none h) ∧ (x7 < (h 74 2) → ((x7 < 0 → ((R32 ((0 * (h 36 0)) - (h 36 1))) ∧ ((R32 (x5 + ((0 * (h 36 0)) - (h 36 1)))) ∧ ((R32 ((x5 + ((0 * (h 36 0)) - (h 36 1))) - x4)) ∧ ((0 < ((x5 + ((0 * (h 36 0)) - (h 36 1))) - x4) → ((R32 (x6 - ((0 * (h 36 0)) - (h 36 1)))) ∧ ((R32 ((x6 - ((0 * (h 36 0)) - (h 36 1))) - x4)) ∧ ((0 < ((x6 - ((0 * (h 36 0)) - (h 36 1))) - x4) → ((0 ≤ x7 ∧ x7 < 20) ∧ Wp X 2 231 30 [vr 74, vr 37, vr 36, zx3, vi x4, vi ((x5 + ((0 * (h 36 0)) - (h 36 1))) - x4), vi ((x6 - ((0 * (h 36 0)) - (h 36 1))) - x4), vi (x7 + 1), vi ((0 * (h 36 0)) - (h 36 1))] [] (upd2 (upd2 h 75 x7 ((x5 + ((0 * (h 36 0)) - (h 36 1))) - x4)) 76 x7 ((x6 - ((0 * (h 36 0)) - (h 36 1))) - x4)) Q)) ∧ (((x6 - ((0 * (h 36 0)) - (h 36 1))) - x4) ≤ 0 → ((0 ≤ x7 ∧ x7 < 20) ∧ Wp X 2 231 30 [vr 74, vr 37, vr 36, zx3, vi x4, vi ((x5 + ((0 * (h 36 0)) - (h 36 1))) - x4), vi 0, vi (x7 + 1), vi ((0 * (h 36 0)) - (h 36 1))] [] (upd2 (upd2 h 75 x7 ((x5 + ((0 * (h 36 0)) - (h 36 1))) - x4)) 76 x7 0) Q)))))) ∧ (((x5 + ((0 * (h 36 0)) - (h 36 1))) - x4) ≤ 0 → ((R32 (x6 - ((0 * (h 36 0)) - (h 36 1)))) ∧ ((R32 ((x6 - ((0 * (h 36 0)) - (h 36 1))) - x4)) ∧ ((0 < ((x6 - ((0 * (h 36 0)) - (h 36 1))) - x4) → ((0 ≤ x7 ∧ x7 < 20) ∧ Wp X 2 231 30 [vr 74, vr 37, vr 36, zx3, vi x4, vi 0, vi ((x6 - ((0 * (h 36 0)) - (h 36 1))) - x4), vi (x7 + 1), vi ((0 * (h 36 0)) - (h 36 1))] [] (upd2 (upd2 h 75 x7 0) 76 x7 ((x6 - ((0 * (h 36 0)) - (h 36 1))) - x4)) Q)) ∧ (((x6 - ((0 * (h 36 0)) - (h 36 1))) - x4) ≤ 0 → ((0 ≤ x7 ∧ x7 < 20) ∧ Wp X 2 231 30 [vr 74, vr 37, vr 36, zx3, vi x4, vi 0, vi 0, vi (x7 + 1), vi ((0 * (h 36 0)) - (h 36 1))] [] (upd2 (upd2 h 75 x7 0) 76 x7 0) Q))))))))))) ∧ (0 ≤ x7 → (((h 37 6) ≤ x7 → ((R32 ((0 * (h 36 0)) - (h 36 1))) ∧ ((R32 (x5 + ((0 * (h 36 0)) - (h 36 1)))) ∧ ((R32 ((x5 + ((0 * (h 36 0)) - (h 36 1))) - x4)) ∧ ((0 < ((x5 + ((0 * (h 36 0)) - (h 36 1))) - x4) → ((R32 (x6 - ((0 * (h 36 0)) - (h 36 1)))) ∧ ((R32 ((x6 - ((0 * (h 36 0)) - (h 36 1))) - x4)) ∧ ((0 < ((x6 - ((0 * (h 36 0)) - (h 36 1))) - x4) → ((0 ≤ x7 ∧ x7 < 20) ∧ Wp X 2 231 30 [vr 74, vr 37, vr 36, zx3, vi x4, vi ((x5 + ((0 * (h 36 0)) - (h 36 1))) - x4), vi ((x6 - ((0 * (h 36 0)) - (h 36 1))) - x4), vi (x7 + 1), vi ((0 * (h 36 0)) - (h 36 1))] [] (upd2 (upd2 h 75 x7 ((x5 + ((0 * (h 36 0)) - (h 36 1))) - x4)) 76 x7 ((x6 - ((0 * (h 36 0)) - (h 36 1))) - x4)) Q)) ∧ (((x6 - ((0 * (h 36 0)) - (h 36 1))) - x4) ≤ 0 → ((0 ≤ x7 ∧ x7 < 20) ∧ Wp X 2 231 30 [vr 74, vr 37, vr 36, zx3, vi x4, vi ((x5 + ((0 * (h 36 0)) - (h 36 1))) - x4), vi 0, vi (x7 + 1), vi ((0 * (h 36 0)) - (h 36 1))] [] (upd2 (upd2 h 75 x7 ((x5 + ((0 * (h 36 0)) - (h 36 1))) - x4)) 76 x7 0) Q)))))) ∧ (((x5 + ((0 * (h 36 0)) - (h 36 1))) - x4) ≤ 0 → ((R32 (x6 - ((0 * (h 36 0)) - (h 36 1)))) ∧ ((R32 ((x6 - ((0 * (h 36 0)) - (h 36 1))) - x4)) ∧ ((0 < ((x6 - ((0 * (h 36 0)) - (h 36 1))) - x4) → ((0 ≤ x7 ∧ x7 < 20) ∧ Wp X 2 231 30 [vr 74, vr 37, vr 36, zx3, vi x4, vi 0, vi ((x6 - ((0 * (h 36 0)) - (h 36 1))) - x4), vi (x7 + 1), vi ((0 * (h 36 0)) - (h 36 1))] [] (upd2 (upd2 h 75 x7 0) 76 x7 ((x6 - ((0 * (h 36 0)) - (h 36 1))) - x4)) Q)) ∧ (((x6 - ((0 * (h 36 0)) - (h 36 1))) - x4) ≤ 0 → ((0 ≤ x7 ∧ x7 < 20) ∧ Wp X 2 231 30 [vr 74, vr 37, vr 36, zx3, vi x4, vi 0, vi 0, vi (x7 + 1), vi ((0 * (h 36 0)) - (h 36 1))] [] (upd2 (upd2 h 75 x7 0) 76 x7 0) Q))))))))))) ∧ (x7 < (h 37 6) → ((0 ≤ x7 ∧ x7 < 20) ∧ ((R32 ((h 39 x7) * (h 36 0))) ∧ ((R32 (((h 39 x7) * (h 36 0)) - (h 36 1))) ∧ ((R32 (x5 + (((h 39 x7) * (h 36 0)) - (h 36 1)))) ∧ ((R32 ((x5 + (((h 39 x7) * (h 36 0)) - (h 36 1))) - x4)) ∧ ((0 < ((x5 + (((h 39 x7) * (h 36 0)) - (h 36 1))) - x4) → ((R32 (x6 - (((h 39 x7) * (h 36 0)) - (h 36 1)))) ∧ ((R32 ((x6 - (((h 39 x7) * (h 36 0)) - (h 36 1))) - x4)) ∧ ((0 < ((x6 - (((h 39 x7) * (h 36 0)) - (h 36 1))) - x4) → Wp X 2 231 30 [vr 74, vr 37, vr 36, zx3, vi x4, vi ((x5 + (((h 39 x7) * (h 36 0)) - (h 36 1))) - x4), vi ((x6 - (((h 39 x7) * (h 36 0)) - (h 36 1))) - x4), vi (x7 + 1), vi (((h 39 x7) * (h 36 0)) - (h 36 1))] [] (upd2 (upd2 h 75 x7 ((x5 + (((h 39 x7) * (h 36 0)) - (h 36 1))) - x4)) 76 x7 ((x6 - (((h 39 x7) * (h 36 0)) - (h 36 1))) - x4)) Q) ∧ (((x6 - (((h 39 x7) * (h 36 0)) - (h 36 1))) - x4) ≤ 0 → Wp X 2 231 30 [vr 74, vr 37, vr 36, zx3, vi x4, vi ((x5 + (((h 39 x7) * (h 36 0)) - (h 36 1))) - x4), vi 0, vi (x7 + 1), vi (((h 39 x7) * (h 36 0)) - (h 36 1))] [] (upd2 (upd2 h 75 x7 ((x5 + (((h 39 x7) * (h 36 0)) - (h 36 1))) - x4)) 76 x7 0) Q))))) ∧ (((x5 + (((h 39 x7) * (h 36 0)) - (h 36 1))) - x4) ≤ 0 → ((R32 (x6 - (((h 39 x7) * (h 36 0)) - (h 36 1)))) ∧ ((R32 ((x6 - (((h 39 x7) * (h 36 0)) - (h 36 1))) - x4)) ∧ ((0 < ((x6 - (((h 39 x7) * (h 36 0)) - (h 36 1))) - x4) → Wp X 2 231 30 [vr 74, vr 37, vr 36, zx3, vi x4, vi 0, vi ((x6 - (((h 39 x7) * (h 36 0)) - (h 36 1))) - x4), vi (x7 + 1), vi (((h 39 x7) * (h 36 0)) - (h 36 1))] [] (upd2 (upd2 h 75 x7 0) 76 x7 ((x6 - (((h 39 x7) * (h 36 0)) - (h 36 1))) - x4)) Q) ∧ (((x6 - (((h 39 x7) * (h 36 0)) - (h 36 1))) - x4) ≤ 0 → Wp X 2 231 30 [vr 74, vr 37, vr 36, zx3, vi x4, vi 0, vi 0, vi (x7 + 1), vi (((h 39 x7) * (h 36 0)) - (h 36 1))] [] (upd2 (upd2 h 75 x7 0) 76 x7 0) Q)))))))))))))))))) : Wp X 2 231 30 [vr 74, vr 37, vr 36, zx3, vi x4, vi x5, vi x6, vi x7, zx8] [] h Q := by
  refine wp_iload rfl rfl ?_
  refine wp_aload rfl rfl ?_
  refine wp_getI (j := 2) rfl (congrArg Prod.fst (kf_74 X.1)) rfl ?_
  refine wp_icge (tn := 103) rfl rfl (fun c1 => ?_) (fun c1 => ?_)
  · replace H := H.1 c1
    exact wp_vret rfl rfl H
  · replace H := H.2 c1
    refine wp_aload rfl rfl ?_
    refine wp_aload rfl rfl ?_
    refine wp_iload rfl rfl ?_
    refine wp_call (k := 191) (ρ2 := 1) (L2 := [vr 37, vi x7]) rfl rfl rfl (Nat.le_of_ble_eq_true rfl) (Nat.le_of_ble_eq_true rfl) (Nat.le_of_ble_eq_true rfl) (rcv_V rfl (congrArg Prod.fst (kf_37 X.1))) rfl ?_
    refine wp_aload rfl rfl ?_
    refine wp_iload rfl rfl ?_
    refine wp_call (k := 189) (ρ2 := 0) (L2 := [vr 37, vi x7]) rfl rfl rfl (Nat.le_of_ble_eq_true rfl) (Nat.le_of_ble_eq_true rfl) (Nat.le_of_ble_eq_true rfl) (rcv_V rfl (congrArg Prod.fst (kf_37 X.1))) rfl ?_
    refine wp_iload rfl rfl ?_
    refine wp_iflt (tn := 16) rfl rfl (fun c2 => ?_) (fun c2 => ?_)
    · replace H := H.1 c2
      refine wp_iconst rfl ?_
      refine wp_zret rfl rfl (by decide) ?_
      show Wp X _ 191 5 [vr 37, vi x7] [vi 0] _ _
      refine wp_ifeqT (tn := 17) rfl rfl (by decide) ?_
      refine wp_iconst rfl ?_
      refine wp_iret rfl rfl ?_
      show Wp X _ 231 46 [vr 74, vr 37, vr 36, zx3, vi x4, vi x5, vi x6, vi x7, zx8] [vi 0, vr 36] _ _
      refine wp_call (k := 169) (ρ2 := 0) (L2 := [vr 36, vi 0]) rfl rfl rfl (Nat.le_of_ble_eq_true rfl) (Nat.le_of_ble_eq_true rfl) (Nat.le_of_ble_eq_true rfl) (rcv_V rfl (congrArg Prod.fst (kf_36 X.1))) rfl ?_
      refine wp_iload rfl rfl ?_
      refine wp_aload rfl rfl ?_
      refine wp_getI (j := 0) rfl (congrArg Prod.fst (kf_36 X.1)) rfl ?_
      refine wp_imul rfl ?_
      refine Wp.topI (y := (0 * (h 36 0))) (w32_I (by clear H; unfold R32; omega)) ?_
      refine wp_aload rfl rfl ?_
      refine wp_getI (j := 1) rfl (congrArg Prod.fst (kf_36 X.1)) rfl ?_
      refine wp_isub rfl ?_
      have g3 := H.1
      replace H := H.2
      refine Wp.topI (y := ((0 * (h 36 0)) - (h 36 1))) (w32_I g3) ?_
      refine wp_iret rfl rfl ?_
      show Wp X _ 231 49 [vr 74, vr 37, vr 36, zx3, vi x4, vi x5, vi x6, vi x7, zx8] [vi ((0 * (h 36 0)) - (h 36 1))] _ _
      refine wp_istore (L2 := [vr 74, vr 37, vr 36, zx3, vi x4, vi x5, vi x6, vi x7, vi ((0 * (h 36 0)) - (h 36 1))]) rfl (Nat.le_of_ble_eq_true rfl) rfl ?_
      refine wp_iconst rfl ?_
      refine wp_iload rfl rfl ?_
      refine wp_iload rfl rfl ?_
      refine wp_iadd rfl ?_
      have g4 := H.1
      replace H := H.2
      refine Wp.topI (y := (x5 + ((0 * (h 36 0)) - (h 36 1)))) (w32_I g4) ?_
      refine wp_iload rfl rfl ?_
      refine wp_isub rfl ?_
      have g5 := H.1
      replace H := H.2
      refine Wp.topI (y := ((x5 + ((0 * (h 36 0)) - (h 36 1))) - x4)) (w32_I g5) ?_
      refine wp_call (k := 252) (ρ2 := 0) (L2 := [vi 0, vi ((x5 + ((0 * (h 36 0)) - (h 36 1))) - x4)]) rfl rfl rfl (Nat.le_of_ble_eq_true rfl) (Nat.le_of_ble_eq_true rfl) (Nat.le_of_ble_eq_true rfl) (rcv_S rfl) rfl ?_
      refine wp_iload rfl rfl ?_
      refine wp_iload rfl rfl ?_
      refine wp_iclt (tn := 9) rfl rfl (fun c6 => ?_) (fun c6 => ?_)
      · replace H := H.1 c6
        refine wp_iload rfl rfl ?_
        refine wp_iret rfl rfl ?_
        show Wp X _ 231 63 [vr 74, vr 37, vr 36, zx3, vi x4, vi x5, vi x6, vi x7, vi ((0 * (h 36 0)) - (h 36 1))] [vi ((x5 + ((0 * (h 36 0)) - (h 36 1))) - x4)] _ _
        refine wp_istore (L2 := [vr 74, vr 37, vr 36, zx3, vi x4, vi ((x5 + ((0 * (h 36 0)) - (h 36 1))) - x4), vi x6, vi x7, vi ((0 * (h 36 0)) - (h 36 1))]) rfl (Nat.le_of_ble_eq_true rfl) rfl ?_
        refine wp_iconst rfl ?_
        refine wp_iload rfl rfl ?_
        refine wp_iload rfl rfl ?_
        refine wp_isub rfl ?_
        have g7 := H.1
        replace H := H.2
        refine Wp.topI (y := (x6 - ((0 * (h 36 0)) - (h 36 1)))) (w32_I g7) ?_
        refine wp_iload rfl rfl ?_
        refine wp_isub rfl ?_
        have g8 := H.1
        replace H := H.2
        refine Wp.topI (y := ((x6 - ((0 * (h 36 0)) - (h 36 1))) - x4)) (w32_I g8) ?_
        refine wp_call (k := 252) (ρ2 := 0) (L2 := [vi 0, vi ((x6 - ((0 * (h 36 0)) - (h 36 1))) - x4)]) rfl rfl rfl (Nat.le_of_ble_eq_true rfl) (Nat.le_of_ble_eq_true rfl) (Nat.le_of_ble_eq_true rfl) (rcv_S rfl) rfl ?_
        refine wp_iload rfl rfl ?_
        refine wp_iload rfl rfl ?_
        refine wp_iclt (tn := 9) rfl rfl (fun c9 => ?_) (fun c9 => ?_)
        · replace H := H.1 c9
          refine wp_iload rfl rfl ?_
          refine wp_iret rfl rfl ?_
          show Wp X _ 231 77 [vr 74, vr 37, vr 36, zx3, vi x4, vi ((x5 + ((0 * (h 36 0)) - (h 36 1))) - x4), vi x6, vi x7, vi ((0 * (h 36 0)) - (h 36 1))] [vi ((x6 - ((0 * (h 36 0)) - (h 36 1))) - x4)] _ _
          refine wp_istore (L2 := [vr 74, vr 37, vr 36, zx3, vi x4, vi ((x5 + ((0 * (h 36 0)) - (h 36 1))) - x4), vi ((x6 - ((0 * (h 36 0)) - (h 36 1))) - x4), vi x7, vi ((0 * (h 36 0)) - (h 36 1))]) rfl (Nat.le_of_ble_eq_true rfl) rfl ?_
          refine wp_aload rfl rfl ?_
          refine wp_getR (r := 74) rfl (congrArg Prod.fst (kf_74 X.1)) rfl ?_
          refine wp_iload rfl rfl ?_
          refine wp_iload rfl rfl ?_
          have g10 := H.1
          replace H := H.2
          refine wp_iastore rfl (kf_75 X.1) g10 ?_
          refine wp_aload rfl rfl ?_
          refine wp_getR (r := 75) rfl (congrArg Prod.fst (kf_74 X.1)) rfl ?_
          refine wp_iload rfl rfl ?_
          refine wp_iload rfl rfl ?_
          refine wp_iastore rfl (kf_76 X.1) ⟨g10.1, g10.2⟩ ?_
          refine wp_iincR (L2 := [vr 74, vr 37, vr 36, zx3, vi x4, vi ((x5 + ((0 * (h 36 0)) - (h 36 1))) - x4), vi ((x6 - ((0 * (h 36 0)) - (h 36 1))) - x4), vi (x7 + 1), vi ((0 * (h 36 0)) - (h 36 1))]) rfl rfl (by clear H; unfold R32; omega) rfl ?_
          refine wp_goto (tn := 30) rfl rfl ?_
          exact H
        · replace H := H.2 c9
          refine wp_iload rfl rfl ?_
          refine wp_goto (tn := 10) rfl rfl ?_
          refine wp_iret rfl rfl ?_
          show Wp X _ 231 77 [vr 74, vr 37, vr 36, zx3, vi x4, vi ((x5 + ((0 * (h 36 0)) - (h 36 1))) - x4), vi x6, vi x7, vi ((0 * (h 36 0)) - (h 36 1))] [vi 0] _ _
          refine wp_istore (L2 := [vr 74, vr 37, vr 36, zx3, vi x4, vi ((x5 + ((0 * (h 36 0)) - (h 36 1))) - x4), vi 0, vi x7, vi ((0 * (h 36 0)) - (h 36 1))]) rfl (Nat.le_of_ble_eq_true rfl) rfl ?_
          refine wp_aload rfl rfl ?_
          refine wp_getR (r := 74) rfl (congrArg Prod.fst (kf_74 X.1)) rfl ?_
          refine wp_iload rfl rfl ?_
          refine wp_iload rfl rfl ?_
          have g11 := H.1
          replace H := H.2
          refine wp_iastore rfl (kf_75 X.1) g11 ?_
          refine wp_aload rfl rfl ?_
          refine wp_getR (r := 75) rfl (congrArg Prod.fst (kf_74 X.1)) rfl ?_
          refine wp_iload rfl rfl ?_
          refine wp_iload rfl rfl ?_
          refine wp_iastore rfl (kf_76 X.1) ⟨g11.1, g11.2⟩ ?_
          refine wp_iincR (L2 := [vr 74, vr 37, vr 36, zx3, vi x4, vi ((x5 + ((0 * (h 36 0)) - (h 36 1))) - x4), vi 0, vi (x7 + 1), vi ((0 * (h 36 0)) - (h 36 1))]) rfl rfl (by clear H; unfold R32; omega) rfl ?_
          refine wp_goto (tn := 30) rfl rfl ?_
          exact H
      · replace H := H.2 c6
        refine wp_iload rfl rfl ?_
        refine wp_goto (tn := 10) rfl rfl ?_
        refine wp_iret rfl rfl ?_
        show Wp X _ 231 63 [vr 74, vr 37, vr 36, zx3, vi x4, vi x5, vi x6, vi x7, vi ((0 * (h 36 0)) - (h 36 1))] [vi 0] _ _
        refine wp_istore (L2 := [vr 74, vr 37, vr 36, zx3, vi x4, vi 0, vi x6, vi x7, vi ((0 * (h 36 0)) - (h 36 1))]) rfl (Nat.le_of_ble_eq_true rfl) rfl ?_
        refine wp_iconst rfl ?_
        refine wp_iload rfl rfl ?_
        refine wp_iload rfl rfl ?_
        refine wp_isub rfl ?_
        have g12 := H.1
        replace H := H.2
        refine Wp.topI (y := (x6 - ((0 * (h 36 0)) - (h 36 1)))) (w32_I g12) ?_
        refine wp_iload rfl rfl ?_
        refine wp_isub rfl ?_
        have g13 := H.1
        replace H := H.2
        refine Wp.topI (y := ((x6 - ((0 * (h 36 0)) - (h 36 1))) - x4)) (w32_I g13) ?_
        refine wp_call (k := 252) (ρ2 := 0) (L2 := [vi 0, vi ((x6 - ((0 * (h 36 0)) - (h 36 1))) - x4)]) rfl rfl rfl (Nat.le_of_ble_eq_true rfl) (Nat.le_of_ble_eq_true rfl) (Nat.le_of_ble_eq_true rfl) (rcv_S rfl) rfl ?_
        refine wp_iload rfl rfl ?_
        refine wp_iload rfl rfl ?_
        refine wp_iclt (tn := 9) rfl rfl (fun c14 => ?_) (fun c14 => ?_)
        · replace H := H.1 c14
          refine wp_iload rfl rfl ?_
          refine wp_iret rfl rfl ?_
          show Wp X _ 231 77 [vr 74, vr 37, vr 36, zx3, vi x4, vi 0, vi x6, vi x7, vi ((0 * (h 36 0)) - (h 36 1))] [vi ((x6 - ((0 * (h 36 0)) - (h 36 1))) - x4)] _ _
          refine wp_istore (L2 := [vr 74, vr 37, vr 36, zx3, vi x4, vi 0, vi ((x6 - ((0 * (h 36 0)) - (h 36 1))) - x4), vi x7, vi ((0 * (h 36 0)) - (h 36 1))]) rfl (Nat.le_of_ble_eq_true rfl) rfl ?_
          refine wp_aload rfl rfl ?_
          refine wp_getR (r := 74) rfl (congrArg Prod.fst (kf_74 X.1)) rfl ?_
          refine wp_iload rfl rfl ?_
          refine wp_iload rfl rfl ?_
          have g15 := H.1
          replace H := H.2
          refine wp_iastore rfl (kf_75 X.1) g15 ?_
          refine wp_aload rfl rfl ?_
          refine wp_getR (r := 75) rfl (congrArg Prod.fst (kf_74 X.1)) rfl ?_
          refine wp_iload rfl rfl ?_
          refine wp_iload rfl rfl ?_
          refine wp_iastore rfl (kf_76 X.1) ⟨g15.1, g15.2⟩ ?_
          refine wp_iincR (L2 := [vr 74, vr 37, vr 36, zx3, vi x4, vi 0, vi ((x6 - ((0 * (h 36 0)) - (h 36 1))) - x4), vi (x7 + 1), vi ((0 * (h 36 0)) - (h 36 1))]) rfl rfl (by clear H; unfold R32; omega) rfl ?_
          refine wp_goto (tn := 30) rfl rfl ?_
          exact H
        · replace H := H.2 c14
          refine wp_iload rfl rfl ?_
          refine wp_goto (tn := 10) rfl rfl ?_
          refine wp_iret rfl rfl ?_
          show Wp X _ 231 77 [vr 74, vr 37, vr 36, zx3, vi x4, vi 0, vi x6, vi x7, vi ((0 * (h 36 0)) - (h 36 1))] [vi 0] _ _
          refine wp_istore (L2 := [vr 74, vr 37, vr 36, zx3, vi x4, vi 0, vi 0, vi x7, vi ((0 * (h 36 0)) - (h 36 1))]) rfl (Nat.le_of_ble_eq_true rfl) rfl ?_
          refine wp_aload rfl rfl ?_
          refine wp_getR (r := 74) rfl (congrArg Prod.fst (kf_74 X.1)) rfl ?_
          refine wp_iload rfl rfl ?_
          refine wp_iload rfl rfl ?_
          have g16 := H.1
          replace H := H.2
          refine wp_iastore rfl (kf_75 X.1) g16 ?_
          refine wp_aload rfl rfl ?_
          refine wp_getR (r := 75) rfl (congrArg Prod.fst (kf_74 X.1)) rfl ?_
          refine wp_iload rfl rfl ?_
          refine wp_iload rfl rfl ?_
          refine wp_iastore rfl (kf_76 X.1) ⟨g16.1, g16.2⟩ ?_
          refine wp_iincR (L2 := [vr 74, vr 37, vr 36, zx3, vi x4, vi 0, vi 0, vi (x7 + 1), vi ((0 * (h 36 0)) - (h 36 1))]) rfl rfl (by clear H; unfold R32; omega) rfl ?_
          refine wp_goto (tn := 30) rfl rfl ?_
          exact H
    · replace H := H.2 c2
      refine wp_iload rfl rfl ?_
      refine wp_aload rfl rfl ?_
      refine wp_getI (j := 6) rfl (congrArg Prod.fst (kf_37 X.1)) rfl ?_
      refine wp_icge (tn := 16) rfl rfl (fun c17 => ?_) (fun c17 => ?_)
      · replace H := H.1 c17
        refine wp_iconst rfl ?_
        refine wp_zret rfl rfl (by decide) ?_
        show Wp X _ 191 5 [vr 37, vi x7] [vi 0] _ _
        refine wp_ifeqT (tn := 17) rfl rfl (by decide) ?_
        refine wp_iconst rfl ?_
        refine wp_iret rfl rfl ?_
        show Wp X _ 231 46 [vr 74, vr 37, vr 36, zx3, vi x4, vi x5, vi x6, vi x7, zx8] [vi 0, vr 36] _ _
        refine wp_call (k := 169) (ρ2 := 0) (L2 := [vr 36, vi 0]) rfl rfl rfl (Nat.le_of_ble_eq_true rfl) (Nat.le_of_ble_eq_true rfl) (Nat.le_of_ble_eq_true rfl) (rcv_V rfl (congrArg Prod.fst (kf_36 X.1))) rfl ?_
        refine wp_iload rfl rfl ?_
        refine wp_aload rfl rfl ?_
        refine wp_getI (j := 0) rfl (congrArg Prod.fst (kf_36 X.1)) rfl ?_
        refine wp_imul rfl ?_
        refine Wp.topI (y := (0 * (h 36 0))) (w32_I (by clear H; unfold R32; omega)) ?_
        refine wp_aload rfl rfl ?_
        refine wp_getI (j := 1) rfl (congrArg Prod.fst (kf_36 X.1)) rfl ?_
        refine wp_isub rfl ?_
        have g18 := H.1
        replace H := H.2
        refine Wp.topI (y := ((0 * (h 36 0)) - (h 36 1))) (w32_I g18) ?_
        refine wp_iret rfl rfl ?_
        show Wp X _ 231 49 [vr 74, vr 37, vr 36, zx3, vi x4, vi x5, vi x6, vi x7, zx8] [vi ((0 * (h 36 0)) - (h 36 1))] _ _
        refine wp_istore (L2 := [vr 74, vr 37, vr 36, zx3, vi x4, vi x5, vi x6, vi x7, vi ((0 * (h 36 0)) - (h 36 1))]) rfl (Nat.le_of_ble_eq_true rfl) rfl ?_
        refine wp_iconst rfl ?_
        refine wp_iload rfl rfl ?_
        refine wp_iload rfl rfl ?_
        refine wp_iadd rfl ?_
        have g19 := H.1
        replace H := H.2
        refine Wp.topI (y := (x5 + ((0 * (h 36 0)) - (h 36 1)))) (w32_I g19) ?_
        refine wp_iload rfl rfl ?_
        refine wp_isub rfl ?_
        have g20 := H.1
        replace H := H.2
        refine Wp.topI (y := ((x5 + ((0 * (h 36 0)) - (h 36 1))) - x4)) (w32_I g20) ?_
        refine wp_call (k := 252) (ρ2 := 0) (L2 := [vi 0, vi ((x5 + ((0 * (h 36 0)) - (h 36 1))) - x4)]) rfl rfl rfl (Nat.le_of_ble_eq_true rfl) (Nat.le_of_ble_eq_true rfl) (Nat.le_of_ble_eq_true rfl) (rcv_S rfl) rfl ?_
        refine wp_iload rfl rfl ?_
        refine wp_iload rfl rfl ?_
        refine wp_iclt (tn := 9) rfl rfl (fun c21 => ?_) (fun c21 => ?_)
        · replace H := H.1 c21
          refine wp_iload rfl rfl ?_
          refine wp_iret rfl rfl ?_
          show Wp X _ 231 63 [vr 74, vr 37, vr 36, zx3, vi x4, vi x5, vi x6, vi x7, vi ((0 * (h 36 0)) - (h 36 1))] [vi ((x5 + ((0 * (h 36 0)) - (h 36 1))) - x4)] _ _
          refine wp_istore (L2 := [vr 74, vr 37, vr 36, zx3, vi x4, vi ((x5 + ((0 * (h 36 0)) - (h 36 1))) - x4), vi x6, vi x7, vi ((0 * (h 36 0)) - (h 36 1))]) rfl (Nat.le_of_ble_eq_true rfl) rfl ?_
          refine wp_iconst rfl ?_
          refine wp_iload rfl rfl ?_
          refine wp_iload rfl rfl ?_
          refine wp_isub rfl ?_
          have g22 := H.1
          replace H := H.2
          refine Wp.topI (y := (x6 - ((0 * (h 36 0)) - (h 36 1)))) (w32_I g22) ?_
          refine wp_iload rfl rfl ?_
          refine wp_isub rfl ?_
          have g23 := H.1
          replace H := H.2
          refine Wp.topI (y := ((x6 - ((0 * (h 36 0)) - (h 36 1))) - x4)) (w32_I g23) ?_
          refine wp_call (k := 252) (ρ2 := 0) (L2 := [vi 0, vi ((x6 - ((0 * (h 36 0)) - (h 36 1))) - x4)]) rfl rfl rfl (Nat.le_of_ble_eq_true rfl) (Nat.le_of_ble_eq_true rfl) (Nat.le_of_ble_eq_true rfl) (rcv_S rfl) rfl ?_
          refine wp_iload rfl rfl ?_
          refine wp_iload rfl rfl ?_
          refine wp_iclt (tn := 9) rfl rfl (fun c24 => ?_) (fun c24 => ?_)
          · replace H := H.1 c24
            refine wp_iload rfl rfl ?_
            refine wp_iret rfl rfl ?_
            show Wp X _ 231 77 [vr 74, vr 37, vr 36, zx3, vi x4, vi ((x5 + ((0 * (h 36 0)) - (h 36 1))) - x4), vi x6, vi x7, vi ((0 * (h 36 0)) - (h 36 1))] [vi ((x6 - ((0 * (h 36 0)) - (h 36 1))) - x4)] _ _
            refine wp_istore (L2 := [vr 74, vr 37, vr 36, zx3, vi x4, vi ((x5 + ((0 * (h 36 0)) - (h 36 1))) - x4), vi ((x6 - ((0 * (h 36 0)) - (h 36 1))) - x4), vi x7, vi ((0 * (h 36 0)) - (h 36 1))]) rfl (Nat.le_of_ble_eq_true rfl) rfl ?_
            refine wp_aload rfl rfl ?_
            refine wp_getR (r := 74) rfl (congrArg Prod.fst (kf_74 X.1)) rfl ?_
            refine wp_iload rfl rfl ?_
            refine wp_iload rfl rfl ?_
            have g25 := H.1
            replace H := H.2
            refine wp_iastore rfl (kf_75 X.1) g25 ?_
            refine wp_aload rfl rfl ?_
            refine wp_getR (r := 75) rfl (congrArg Prod.fst (kf_74 X.1)) rfl ?_
            refine wp_iload rfl rfl ?_
            refine wp_iload rfl rfl ?_
            refine wp_iastore rfl (kf_76 X.1) ⟨g25.1, g25.2⟩ ?_
            refine wp_iincR (L2 := [vr 74, vr 37, vr 36, zx3, vi x4, vi ((x5 + ((0 * (h 36 0)) - (h 36 1))) - x4), vi ((x6 - ((0 * (h 36 0)) - (h 36 1))) - x4), vi (x7 + 1), vi ((0 * (h 36 0)) - (h 36 1))]) rfl rfl (by clear H; unfold R32; omega) rfl ?_
            refine wp_goto (tn := 30) rfl rfl ?_
            exact H
          · replace H := H.2 c24
            refine wp_iload rfl rfl ?_
            refine wp_goto (tn := 10) rfl rfl ?_
            refine wp_iret rfl rfl ?_
            show Wp X _ 231 77 [vr 74, vr 37, vr 36, zx3, vi x4, vi ((x5 + ((0 * (h 36 0)) - (h 36 1))) - x4), vi x6, vi x7, vi ((0 * (h 36 0)) - (h 36 1))] [vi 0] _ _
            refine wp_istore (L2 := [vr 74, vr 37, vr 36, zx3, vi x4, vi ((x5 + ((0 * (h 36 0)) - (h 36 1))) - x4), vi 0, vi x7, vi ((0 * (h 36 0)) - (h 36 1))]) rfl (Nat.le_of_ble_eq_true rfl) rfl ?_
            refine wp_aload rfl rfl ?_
            refine wp_getR (r := 74) rfl (congrArg Prod.fst (kf_74 X.1)) rfl ?_
            refine wp_iload rfl rfl ?_
            refine wp_iload rfl rfl ?_
            have g26 := H.1
            replace H := H.2
            refine wp_iastore rfl (kf_75 X.1) g26 ?_
            refine wp_aload rfl rfl ?_
            refine wp_getR (r := 75) rfl (congrArg Prod.fst (kf_74 X.1)) rfl ?_
            refine wp_iload rfl rfl ?_
            refine wp_iload rfl rfl ?_
            refine wp_iastore rfl (kf_76 X.1) ⟨g26.1, g26.2⟩ ?_
            refine wp_iincR (L2 := [vr 74, vr 37, vr 36, zx3, vi x4, vi ((x5 + ((0 * (h 36 0)) - (h 36 1))) - x4), vi 0, vi (x7 + 1), vi ((0 * (h 36 0)) - (h 36 1))]) rfl rfl (by clear H; unfold R32; omega) rfl ?_
            refine wp_goto (tn := 30) rfl rfl ?_
            exact H
        · replace H := H.2 c21
          refine wp_iload rfl rfl ?_
          refine wp_goto (tn := 10) rfl rfl ?_
          refine wp_iret rfl rfl ?_
          show Wp X _ 231 63 [vr 74, vr 37, vr 36, zx3, vi x4, vi x5, vi x6, vi x7, vi ((0 * (h 36 0)) - (h 36 1))] [vi 0] _ _
          refine wp_istore (L2 := [vr 74, vr 37, vr 36, zx3, vi x4, vi 0, vi x6, vi x7, vi ((0 * (h 36 0)) - (h 36 1))]) rfl (Nat.le_of_ble_eq_true rfl) rfl ?_
          refine wp_iconst rfl ?_
          refine wp_iload rfl rfl ?_
          refine wp_iload rfl rfl ?_
          refine wp_isub rfl ?_
          have g27 := H.1
          replace H := H.2
          refine Wp.topI (y := (x6 - ((0 * (h 36 0)) - (h 36 1)))) (w32_I g27) ?_
          refine wp_iload rfl rfl ?_
          refine wp_isub rfl ?_
          have g28 := H.1
          replace H := H.2
          refine Wp.topI (y := ((x6 - ((0 * (h 36 0)) - (h 36 1))) - x4)) (w32_I g28) ?_
          refine wp_call (k := 252) (ρ2 := 0) (L2 := [vi 0, vi ((x6 - ((0 * (h 36 0)) - (h 36 1))) - x4)]) rfl rfl rfl (Nat.le_of_ble_eq_true rfl) (Nat.le_of_ble_eq_true rfl) (Nat.le_of_ble_eq_true rfl) (rcv_S rfl) rfl ?_
          refine wp_iload rfl rfl ?_
          refine wp_iload rfl rfl ?_
          refine wp_iclt (tn := 9) rfl rfl (fun c29 => ?_) (fun c29 => ?_)
          · replace H := H.1 c29
            refine wp_iload rfl rfl ?_
            refine wp_iret rfl rfl ?_
            show Wp X _ 231 77 [vr 74, vr 37, vr 36, zx3, vi x4, vi 0, vi x6, vi x7, vi ((0 * (h 36 0)) - (h 36 1))] [vi ((x6 - ((0 * (h 36 0)) - (h 36 1))) - x4)] _ _
            refine wp_istore (L2 := [vr 74, vr 37, vr 36, zx3, vi x4, vi 0, vi ((x6 - ((0 * (h 36 0)) - (h 36 1))) - x4), vi x7, vi ((0 * (h 36 0)) - (h 36 1))]) rfl (Nat.le_of_ble_eq_true rfl) rfl ?_
            refine wp_aload rfl rfl ?_
            refine wp_getR (r := 74) rfl (congrArg Prod.fst (kf_74 X.1)) rfl ?_
            refine wp_iload rfl rfl ?_
            refine wp_iload rfl rfl ?_
            have g30 := H.1
            replace H := H.2
            refine wp_iastore rfl (kf_75 X.1) g30 ?_
            refine wp_aload rfl rfl ?_
            refine wp_getR (r := 75) rfl (congrArg Prod.fst (kf_74 X.1)) rfl ?_
            refine wp_iload rfl rfl ?_
            refine wp_iload rfl rfl ?_
            refine wp_iastore rfl (kf_76 X.1) ⟨g30.1, g30.2⟩ ?_
            refine wp_iincR (L2 := [vr 74, vr 37, vr 36, zx3, vi x4, vi 0, vi ((x6 - ((0 * (h 36 0)) - (h 36 1))) - x4), vi (x7 + 1), vi ((0 * (h 36 0)) - (h 36 1))]) rfl rfl (by clear H; unfold R32; omega) rfl ?_
            refine wp_goto (tn := 30) rfl rfl ?_
            exact H
          · replace H := H.2 c29
            refine wp_iload rfl rfl ?_
            refine wp_goto (tn := 10) rfl rfl ?_
            refine wp_iret rfl rfl ?_
            show Wp X _ 231 77 [vr 74, vr 37, vr 36, zx3, vi x4, vi 0, vi x6, vi x7, vi ((0 * (h 36 0)) - (h 36 1))] [vi 0] _ _
            refine wp_istore (L2 := [vr 74, vr 37, vr 36, zx3, vi x4, vi 0, vi 0, vi x7, vi ((0 * (h 36 0)) - (h 36 1))]) rfl (Nat.le_of_ble_eq_true rfl) rfl ?_
            refine wp_aload rfl rfl ?_
            refine wp_getR (r := 74) rfl (congrArg Prod.fst (kf_74 X.1)) rfl ?_
            refine wp_iload rfl rfl ?_
            refine wp_iload rfl rfl ?_
            have g31 := H.1
            replace H := H.2
            refine wp_iastore rfl (kf_75 X.1) g31 ?_
            refine wp_aload rfl rfl ?_
            refine wp_getR (r := 75) rfl (congrArg Prod.fst (kf_74 X.1)) rfl ?_
            refine wp_iload rfl rfl ?_
            refine wp_iload rfl rfl ?_
            refine wp_iastore rfl (kf_76 X.1) ⟨g31.1, g31.2⟩ ?_
            refine wp_iincR (L2 := [vr 74, vr 37, vr 36, zx3, vi x4, vi 0, vi 0, vi (x7 + 1), vi ((0 * (h 36 0)) - (h 36 1))]) rfl rfl (by clear H; unfold R32; omega) rfl ?_
            refine wp_goto (tn := 30) rfl rfl ?_
            exact H
      · replace H := H.2 c17
        refine wp_iconst rfl ?_
        refine wp_goto (tn := 17) rfl rfl ?_
        refine wp_zret rfl rfl (by decide) ?_
        show Wp X _ 191 5 [vr 37, vi x7] [vi 1] _ _
        refine wp_ifeqF (tn := 17) rfl rfl (by decide) ?_
        refine wp_aload rfl rfl ?_
        refine wp_getR (r := 38) rfl (congrArg Prod.fst (kf_37 X.1)) rfl ?_
        refine wp_iload rfl rfl ?_
        have g32 := H.1
        replace H := H.2
        refine wp_iaload rfl (kf_39 X.1) g32 ?_
        refine wp_goto (tn := 18) rfl rfl ?_
        refine wp_iret rfl rfl ?_
        show Wp X _ 231 46 [vr 74, vr 37, vr 36, zx3, vi x4, vi x5, vi x6, vi x7, zx8] [vi (h 39 x7), vr 36] _ _
        refine wp_call (k := 169) (ρ2 := 0) (L2 := [vr 36, vi (h 39 x7)]) rfl rfl rfl (Nat.le_of_ble_eq_true rfl) (Nat.le_of_ble_eq_true rfl) (Nat.le_of_ble_eq_true rfl) (rcv_V rfl (congrArg Prod.fst (kf_36 X.1))) rfl ?_
        refine wp_iload rfl rfl ?_
        refine wp_aload rfl rfl ?_
        refine wp_getI (j := 0) rfl (congrArg Prod.fst (kf_36 X.1)) rfl ?_
        refine wp_imul rfl ?_
        have g33 := H.1
        replace H := H.2
        refine Wp.topI (y := ((h 39 x7) * (h 36 0))) (w32_I g33) ?_
        refine wp_aload rfl rfl ?_
        refine wp_getI (j := 1) rfl (congrArg Prod.fst (kf_36 X.1)) rfl ?_
        refine wp_isub rfl ?_
        have g34 := H.1
        replace H := H.2
        refine Wp.topI (y := (((h 39 x7) * (h 36 0)) - (h 36 1))) (w32_I g34) ?_
        refine wp_iret rfl rfl ?_
        show Wp X _ 231 49 [vr 74, vr 37, vr 36, zx3, vi x4, vi x5, vi x6, vi x7, zx8] [vi (((h 39 x7) * (h 36 0)) - (h 36 1))] _ _
        refine wp_istore (L2 := [vr 74, vr 37, vr 36, zx3, vi x4, vi x5, vi x6, vi x7, vi (((h 39 x7) * (h 36 0)) - (h 36 1))]) rfl (Nat.le_of_ble_eq_true rfl) rfl ?_
        refine wp_iconst rfl ?_
        refine wp_iload rfl rfl ?_
        refine wp_iload rfl rfl ?_
        refine wp_iadd rfl ?_
        have g35 := H.1
        replace H := H.2
        refine Wp.topI (y := (x5 + (((h 39 x7) * (h 36 0)) - (h 36 1)))) (w32_I g35) ?_
        refine wp_iload rfl rfl ?_
        refine wp_isub rfl ?_
        have g36 := H.1
        replace H := H.2
        refine Wp.topI (y := ((x5 + (((h 39 x7) * (h 36 0)) - (h 36 1))) - x4)) (w32_I g36) ?_
        refine wp_call (k := 252) (ρ2 := 0) (L2 := [vi 0, vi ((x5 + (((h 39 x7) * (h 36 0)) - (h 36 1))) - x4)]) rfl rfl rfl (Nat.le_of_ble_eq_true rfl) (Nat.le_of_ble_eq_true rfl) (Nat.le_of_ble_eq_true rfl) (rcv_S rfl) rfl ?_
        refine wp_iload rfl rfl ?_
        refine wp_iload rfl rfl ?_
        refine wp_iclt (tn := 9) rfl rfl (fun c37 => ?_) (fun c37 => ?_)
        · replace H := H.1 c37
          refine wp_iload rfl rfl ?_
          refine wp_iret rfl rfl ?_
          show Wp X _ 231 63 [vr 74, vr 37, vr 36, zx3, vi x4, vi x5, vi x6, vi x7, vi (((h 39 x7) * (h 36 0)) - (h 36 1))] [vi ((x5 + (((h 39 x7) * (h 36 0)) - (h 36 1))) - x4)] _ _
          refine wp_istore (L2 := [vr 74, vr 37, vr 36, zx3, vi x4, vi ((x5 + (((h 39 x7) * (h 36 0)) - (h 36 1))) - x4), vi x6, vi x7, vi (((h 39 x7) * (h 36 0)) - (h 36 1))]) rfl (Nat.le_of_ble_eq_true rfl) rfl ?_
          refine wp_iconst rfl ?_
          refine wp_iload rfl rfl ?_
          refine wp_iload rfl rfl ?_
          refine wp_isub rfl ?_
          have g38 := H.1
          replace H := H.2
          refine Wp.topI (y := (x6 - (((h 39 x7) * (h 36 0)) - (h 36 1)))) (w32_I g38) ?_
          refine wp_iload rfl rfl ?_
          refine wp_isub rfl ?_
          have g39 := H.1
          replace H := H.2
          refine Wp.topI (y := ((x6 - (((h 39 x7) * (h 36 0)) - (h 36 1))) - x4)) (w32_I g39) ?_
          refine wp_call (k := 252) (ρ2 := 0) (L2 := [vi 0, vi ((x6 - (((h 39 x7) * (h 36 0)) - (h 36 1))) - x4)]) rfl rfl rfl (Nat.le_of_ble_eq_true rfl) (Nat.le_of_ble_eq_true rfl) (Nat.le_of_ble_eq_true rfl) (rcv_S rfl) rfl ?_
          refine wp_iload rfl rfl ?_
          refine wp_iload rfl rfl ?_
          refine wp_iclt (tn := 9) rfl rfl (fun c40 => ?_) (fun c40 => ?_)
          · replace H := H.1 c40
            refine wp_iload rfl rfl ?_
            refine wp_iret rfl rfl ?_
            show Wp X _ 231 77 [vr 74, vr 37, vr 36, zx3, vi x4, vi ((x5 + (((h 39 x7) * (h 36 0)) - (h 36 1))) - x4), vi x6, vi x7, vi (((h 39 x7) * (h 36 0)) - (h 36 1))] [vi ((x6 - (((h 39 x7) * (h 36 0)) - (h 36 1))) - x4)] _ _
            refine wp_istore (L2 := [vr 74, vr 37, vr 36, zx3, vi x4, vi ((x5 + (((h 39 x7) * (h 36 0)) - (h 36 1))) - x4), vi ((x6 - (((h 39 x7) * (h 36 0)) - (h 36 1))) - x4), vi x7, vi (((h 39 x7) * (h 36 0)) - (h 36 1))]) rfl (Nat.le_of_ble_eq_true rfl) rfl ?_
            refine wp_aload rfl rfl ?_
            refine wp_getR (r := 74) rfl (congrArg Prod.fst (kf_74 X.1)) rfl ?_
            refine wp_iload rfl rfl ?_
            refine wp_iload rfl rfl ?_
            refine wp_iastore rfl (kf_75 X.1) ⟨g32.1, g32.2⟩ ?_
            refine wp_aload rfl rfl ?_
            refine wp_getR (r := 75) rfl (congrArg Prod.fst (kf_74 X.1)) rfl ?_
            refine wp_iload rfl rfl ?_
            refine wp_iload rfl rfl ?_
            refine wp_iastore rfl (kf_76 X.1) ⟨g32.1, g32.2⟩ ?_
            refine wp_iincR (L2 := [vr 74, vr 37, vr 36, zx3, vi x4, vi ((x5 + (((h 39 x7) * (h 36 0)) - (h 36 1))) - x4), vi ((x6 - (((h 39 x7) * (h 36 0)) - (h 36 1))) - x4), vi (x7 + 1), vi (((h 39 x7) * (h 36 0)) - (h 36 1))]) rfl rfl (by clear H; unfold R32; omega) rfl ?_
            refine wp_goto (tn := 30) rfl rfl ?_
            exact H
          · replace H := H.2 c40
            refine wp_iload rfl rfl ?_
            refine wp_goto (tn := 10) rfl rfl ?_
            refine wp_iret rfl rfl ?_
            show Wp X _ 231 77 [vr 74, vr 37, vr 36, zx3, vi x4, vi ((x5 + (((h 39 x7) * (h 36 0)) - (h 36 1))) - x4), vi x6, vi x7, vi (((h 39 x7) * (h 36 0)) - (h 36 1))] [vi 0] _ _
            refine wp_istore (L2 := [vr 74, vr 37, vr 36, zx3, vi x4, vi ((x5 + (((h 39 x7) * (h 36 0)) - (h 36 1))) - x4), vi 0, vi x7, vi (((h 39 x7) * (h 36 0)) - (h 36 1))]) rfl (Nat.le_of_ble_eq_true rfl) rfl ?_
            refine wp_aload rfl rfl ?_
            refine wp_getR (r := 74) rfl (congrArg Prod.fst (kf_74 X.1)) rfl ?_
            refine wp_iload rfl rfl ?_
            refine wp_iload rfl rfl ?_
            refine wp_iastore rfl (kf_75 X.1) ⟨g32.1, g32.2⟩ ?_
            refine wp_aload rfl rfl ?_
            refine wp_getR (r := 75) rfl (congrArg Prod.fst (kf_74 X.1)) rfl ?_
            refine wp_iload rfl rfl ?_
            refine wp_iload rfl rfl ?_
            refine wp_iastore rfl (kf_76 X.1) ⟨g32.1, g32.2⟩ ?_
            refine wp_iincR (L2 := [vr 74, vr 37, vr 36, zx3, vi x4, vi ((x5 + (((h 39 x7) * (h 36 0)) - (h 36 1))) - x4), vi 0, vi (x7 + 1), vi (((h 39 x7) * (h 36 0)) - (h 36 1))]) rfl rfl (by clear H; unfold R32; omega) rfl ?_
            refine wp_goto (tn := 30) rfl rfl ?_
            exact H
        · replace H := H.2 c37
          refine wp_iload rfl rfl ?_
          refine wp_goto (tn := 10) rfl rfl ?_
          refine wp_iret rfl rfl ?_
          show Wp X _ 231 63 [vr 74, vr 37, vr 36, zx3, vi x4, vi x5, vi x6, vi x7, vi (((h 39 x7) * (h 36 0)) - (h 36 1))] [vi 0] _ _
          refine wp_istore (L2 := [vr 74, vr 37, vr 36, zx3, vi x4, vi 0, vi x6, vi x7, vi (((h 39 x7) * (h 36 0)) - (h 36 1))]) rfl (Nat.le_of_ble_eq_true rfl) rfl ?_
          refine wp_iconst rfl ?_
          refine wp_iload rfl rfl ?_
          refine wp_iload rfl rfl ?_
          refine wp_isub rfl ?_
          have g41 := H.1
          replace H := H.2
          refine Wp.topI (y := (x6 - (((h 39 x7) * (h 36 0)) - (h 36 1)))) (w32_I g41) ?_
          refine wp_iload rfl rfl ?_
          refine wp_isub rfl ?_
          have g42 := H.1
          replace H := H.2
          refine Wp.topI (y := ((x6 - (((h 39 x7) * (h 36 0)) - (h 36 1))) - x4)) (w32_I g42) ?_
          refine wp_call (k := 252) (ρ2 := 0) (L2 := [vi 0, vi ((x6 - (((h 39 x7) * (h 36 0)) - (h 36 1))) - x4)]) rfl rfl rfl (Nat.le_of_ble_eq_true rfl) (Nat.le_of_ble_eq_true rfl) (Nat.le_of_ble_eq_true rfl) (rcv_S rfl) rfl ?_
          refine wp_iload rfl rfl ?_
          refine wp_iload rfl rfl ?_
          refine wp_iclt (tn := 9) rfl rfl (fun c43 => ?_) (fun c43 => ?_)
          · replace H := H.1 c43
            refine wp_iload rfl rfl ?_
            refine wp_iret rfl rfl ?_
            show Wp X _ 231 77 [vr 74, vr 37, vr 36, zx3, vi x4, vi 0, vi x6, vi x7, vi (((h 39 x7) * (h 36 0)) - (h 36 1))] [vi ((x6 - (((h 39 x7) * (h 36 0)) - (h 36 1))) - x4)] _ _
            refine wp_istore (L2 := [vr 74, vr 37, vr 36, zx3, vi x4, vi 0, vi ((x6 - (((h 39 x7) * (h 36 0)) - (h 36 1))) - x4), vi x7, vi (((h 39 x7) * (h 36 0)) - (h 36 1))]) rfl (Nat.le_of_ble_eq_true rfl) rfl ?_
            refine wp_aload rfl rfl ?_
            refine wp_getR (r := 74) rfl (congrArg Prod.fst (kf_74 X.1)) rfl ?_
            refine wp_iload rfl rfl ?_
            refine wp_iload rfl rfl ?_
            refine wp_iastore rfl (kf_75 X.1) ⟨g32.1, g32.2⟩ ?_
            refine wp_aload rfl rfl ?_
            refine wp_getR (r := 75) rfl (congrArg Prod.fst (kf_74 X.1)) rfl ?_
            refine wp_iload rfl rfl ?_
            refine wp_iload rfl rfl ?_
            refine wp_iastore rfl (kf_76 X.1) ⟨g32.1, g32.2⟩ ?_
            refine wp_iincR (L2 := [vr 74, vr 37, vr 36, zx3, vi x4, vi 0, vi ((x6 - (((h 39 x7) * (h 36 0)) - (h 36 1))) - x4), vi (x7 + 1), vi (((h 39 x7) * (h 36 0)) - (h 36 1))]) rfl rfl (by clear H; unfold R32; omega) rfl ?_
            refine wp_goto (tn := 30) rfl rfl ?_
            exact H
          · replace H := H.2 c43
            refine wp_iload rfl rfl ?_
            refine wp_goto (tn := 10) rfl rfl ?_
            refine wp_iret rfl rfl ?_
            show Wp X _ 231 77 [vr 74, vr 37, vr 36, zx3, vi x4, vi 0, vi x6, vi x7, vi (((h 39 x7) * (h 36 0)) - (h 36 1))] [vi 0] _ _
            refine wp_istore (L2 := [vr 74, vr 37, vr 36, zx3, vi x4, vi 0, vi 0, vi x7, vi (((h 39 x7) * (h 36 0)) - (h 36 1))]) rfl (Nat.le_of_ble_eq_true rfl) rfl ?_
            refine wp_aload rfl rfl ?_
            refine wp_getR (r := 74) rfl (congrArg Prod.fst (kf_74 X.1)) rfl ?_
            refine wp_iload rfl rfl ?_
            refine wp_iload rfl rfl ?_
            refine wp_iastore rfl (kf_75 X.1) ⟨g32.1, g32.2⟩ ?_
            refine wp_aload rfl rfl ?_
            refine wp_getR (r := 75) rfl (congrArg Prod.fst (kf_74 X.1)) rfl ?_
            refine wp_iload rfl rfl ?_
            refine wp_iload rfl rfl ?_
            refine wp_iastore rfl (kf_76 X.1) ⟨g32.1, g32.2⟩ ?_
            refine wp_iincR (L2 := [vr 74, vr 37, vr 36, zx3, vi x4, vi 0, vi 0, vi (x7 + 1), vi (((h 39 x7) * (h 36 0)) - (h 36 1))]) rfl rfl (by clear H; unfold R32; omega) rfl ?_
            refine wp_goto (tn := 30) rfl rfl ?_
            exact H
/-- Sums.firstOver(I)I, from 0 -/
theorem S233_74_0 {X : Nat × (Int → Int)} {h : HP} {Q : bQ} (x1 : Int) (H : Wp X 2 233 2 [vr 74, vi x1, vi 0] [] h Q) : Wp X 2 233 0 [vr 74, vi x1, vu] [] h Q := by
  refine wp_iconst rfl ?_
  refine wp_istore (L2 := [vr 74, vi x1, vi 0]) rfl (Nat.le_of_ble_eq_true rfl) rfl ?_
  exact H
/-- Sums.firstOver(I)I, from 2 -/
theorem S233_74_2 {X : Nat × (Int → Int)} {h : HP} {Q : bQ} (x1 : Int) (x2 : Int) (H : (((h 74 2) ≤ x2 → Q (some (vi (-1))) h) ∧ (x2 < (h 74 2) → ((x2 < 0 → ((0 ≤ x1 → ((R32 (x2 + 1)) ∧ Wp X 2 233 2 [vr 74, vi x1, vi (x2 + 1)] [] h Q)) ∧ (x1 < 0 → Q (some (vi x2)) h))) ∧ (0 ≤ x2 → ((0 ≤ x2 ∧ x2 < 20) ∧ (((h 75 x2) ≤ x1 → (((h 76 x2) ≤ x1 → Wp X 2 233 2 [vr 74, vi x1, vi (x2 + 1)] [] h Q) ∧ (x1 < (h 76 x2) → Q (some (vi x2)) h))) ∧ (x1 < (h 75 x2) → Q (some (vi x2)) h)))))))) : Wp X 2 233 2 [vr 74, vi x1, vi x2] [] h Q := by
  refine wp_iload rfl rfl ?_
  refine wp_aload rfl rfl ?_
  refine wp_getI (j := 2) rfl (congrArg Prod.fst (kf_74 X.1)) rfl ?_
  refine wp_icge (tn := 27) rfl rfl (fun c1 => ?_) (fun c1 => ?_)
  · replace H := H.1 c1
    refine wp_iconst rfl ?_
    exact wp_iret rfl rfl H
  · replace H := H.2 c1
    refine wp_aload rfl rfl ?_
    refine wp_iload rfl rfl ?_
    refine wp_iload rfl rfl ?_
    refine wp_call (k := 234) (ρ2 := 1) (L2 := [vr 74, vi x2, vi x1]) rfl rfl rfl (Nat.le_of_ble_eq_true rfl) (Nat.le_of_ble_eq_true rfl) (Nat.le_of_ble_eq_true rfl) (rcv_V rfl (congrArg Prod.fst (kf_74 X.1))) rfl ?_
    refine wp_aload rfl rfl ?_
    refine wp_iconst rfl ?_
    refine wp_iload rfl rfl ?_
    refine wp_call (k := 232) (ρ2 := 0) (L2 := [vr 74, vi 1, vi x2]) rfl rfl rfl (Nat.le_of_ble_eq_true rfl) (Nat.le_of_ble_eq_true rfl) (Nat.le_of_ble_eq_true rfl) (rcv_V rfl (congrArg Prod.fst (kf_74 X.1))) rfl ?_
    refine wp_iload rfl rfl ?_
    refine wp_iflt (tn := 12) rfl rfl (fun c2 => ?_) (fun c2 => ?_)
    · replace H := H.1 c2
      refine wp_iconst rfl ?_
      refine wp_iret rfl rfl ?_
      show Wp X _ 234 6 [vr 74, vi x2, vi x1] [vi 0] _ _
      refine wp_iload rfl rfl ?_
      refine wp_icle (tn := 12) rfl rfl (fun c3 => ?_) (fun c3 => ?_)
      · replace H := H.1 c3
        refine wp_aload rfl rfl ?_
        refine wp_iconst rfl ?_
        refine wp_iload rfl rfl ?_
        refine wp_call (k := 232) (ρ2 := 0) (L2 := [vr 74, vi (-1), vi x2]) rfl rfl rfl (Nat.le_of_ble_eq_true rfl) (Nat.le_of_ble_eq_true rfl) (Nat.le_of_ble_eq_true rfl) (rcv_V rfl (congrArg Prod.fst (kf_74 X.1))) rfl ?_
        refine wp_iload rfl rfl ?_
        refine wp_ifltT (tn := 12) rfl rfl c2 ?_
        refine wp_iconst rfl ?_
        refine wp_iret rfl rfl ?_
        show Wp X _ 234 18 [vr 74, vi x2, vi x1] [vi 0] _ _
        refine wp_iload rfl rfl ?_
        refine wp_icleT (tn := 26) rfl rfl c3 ?_
        refine wp_iconst rfl ?_
        refine wp_iret rfl rfl ?_
        show Wp X _ 233 16 [vr 74, vi x1, vi x2] [vi 0] _ _
        refine wp_ifeqT (tn := 21) rfl rfl (by decide) ?_
        have g4 := H.1
        replace H := H.2
        refine wp_iincR (L2 := [vr 74, vi x1, vi (x2 + 1)]) rfl rfl g4 rfl ?_
        refine wp_goto (tn := 2) rfl rfl ?_
        exact H
      · replace H := H.2 c3
        refine wp_iconst rfl ?_
        refine wp_iret rfl rfl ?_
        show Wp X _ 233 16 [vr 74, vi x1, vi x2] [vi 1] _ _
        refine wp_ifeqF (tn := 21) rfl rfl (by decide) ?_
        refine wp_iload rfl rfl ?_
        exact wp_iret rfl rfl H
    · replace H := H.2 c2
      refine wp_iload rfl rfl ?_
      refine wp_aload rfl rfl ?_
      refine wp_getI (j := 2) rfl (congrArg Prod.fst (kf_74 X.1)) rfl ?_
      refine wp_icltT (tn := 14) rfl rfl c1 ?_
      refine wp_iload rfl rfl ?_
      refine wp_ifleF (tn := 27) rfl rfl (by decide) ?_
      refine wp_aload rfl rfl ?_
      refine wp_getR (r := 74) rfl (congrArg Prod.fst (kf_74 X.1)) rfl ?_
      refine wp_iload rfl rfl ?_
      have g5 := H.1
      replace H := H.2
      refine wp_iaload rfl (kf_75 X.1) g5 ?_
      refine wp_goto (tn := 33) rfl rfl ?_
      refine wp_iret rfl rfl ?_
      show Wp X _ 234 6 [vr 74, vi x2, vi x1] [vi (h 75 x2)] _ _
      refine wp_iload rfl rfl ?_
      refine wp_icle (tn := 12) rfl rfl (fun c6 => ?_) (fun c6 => ?_)
      · replace H := H.1 c6
        refine wp_aload rfl rfl ?_
        refine wp_iconst rfl ?_
        refine wp_iload rfl rfl ?_
        refine wp_call (k := 232) (ρ2 := 0) (L2 := [vr 74, vi (-1), vi x2]) rfl rfl rfl (Nat.le_of_ble_eq_true rfl) (Nat.le_of_ble_eq_true rfl) (Nat.le_of_ble_eq_true rfl) (rcv_V rfl (congrArg Prod.fst (kf_74 X.1))) rfl ?_
        refine wp_iload rfl rfl ?_
        refine wp_ifltF (tn := 12) rfl rfl g5.1 ?_
        refine wp_iload rfl rfl ?_
        refine wp_aload rfl rfl ?_
        refine wp_getI (j := 2) rfl (congrArg Prod.fst (kf_74 X.1)) rfl ?_
        refine wp_icltT (tn := 14) rfl rfl c1 ?_
        refine wp_iload rfl rfl ?_
        refine wp_ifleT (tn := 27) rfl rfl (by decide) ?_
        refine wp_aload rfl rfl ?_
        refine wp_getR (r := 75) rfl (congrArg Prod.fst (kf_74 X.1)) rfl ?_
        refine wp_iload rfl rfl ?_
        refine wp_iaload rfl (kf_76 X.1) ⟨g5.1, g5.2⟩ ?_
        refine wp_iret rfl rfl ?_
        show Wp X _ 234 18 [vr 74, vi x2, vi x1] [vi (h 76 x2)] _ _
        refine wp_iload rfl rfl ?_
        refine wp_icle (tn := 26) rfl rfl (fun c7 => ?_) (fun c7 => ?_)
        · replace H := H.1 c7
          refine wp_iconst rfl ?_
          refine wp_iret rfl rfl ?_
          show Wp X _ 233 16 [vr 74, vi x1, vi x2] [vi 0] _ _
          refine wp_ifeqT (tn := 21) rfl rfl (by decide) ?_
          refine wp_iincR (L2 := [vr 74, vi x1, vi (x2 + 1)]) rfl rfl (by clear H; unfold R32; omega) rfl ?_
          refine wp_goto (tn := 2) rfl rfl ?_
          exact H
        · replace H := H.2 c7
          refine wp_iconst rfl ?_
          refine wp_goto (tn := 27) rfl rfl ?_
          refine wp_iret rfl rfl ?_
          show Wp X _ 233 16 [vr 74, vi x1, vi x2] [vi (-1)] _ _
          refine wp_ifeqF (tn := 21) rfl rfl (by decide) ?_
          refine wp_iload rfl rfl ?_
          exact wp_iret rfl rfl H
      · replace H := H.2 c6
        refine wp_iconst rfl ?_
        refine wp_iret rfl rfl ?_
        show Wp X _ 233 16 [vr 74, vi x1, vi x2] [vi 1] _ _
        refine wp_ifeqF (tn := 21) rfl rfl (by decide) ?_
        refine wp_iload rfl rfl ?_
        exact wp_iret rfl rfl H
/-- Sums.began(II)I, from 0 -/
theorem S235_74_0 {X : Nat × (Int → Int)} {h : HP} {Q : bQ} (x1 : Int) (x2 : Int) (H : Wp X 1 235 2 [vr 74, vi x1, vi x2, vi x1] [] h Q) : Wp X 1 235 0 [vr 74, vi x1, vi x2, vu] [] h Q := by
  refine wp_iload rfl rfl ?_
  refine wp_istore (L2 := [vr 74, vi x1, vi x2, vi x1]) rfl (Nat.le_of_ble_eq_true rfl) rfl ?_
  exact H
/-- Sums.began(II)I, from 2 -/
theorem S235_74_2 {X : Nat × (Int → Int)} {h : HP} {Q : bQ} (zx1 : aV) (x2 : Int) (x3 : Int) (H : ((x3 ≤ 0 → Q (some (vi x3)) h) ∧ (0 < x3 → ((R32 (x3 - 1)) ∧ (((x3 - 1) < (h 74 2) → ((x2 ≤ 0 → ((0 ≤ (x3 - 1) ∧ (x3 - 1) < 20) ∧ (((h 76 (x3 - 1)) = 0 → Q (some (vi x3)) h) ∧ ((h 76 (x3 - 1)) ≠ 0 → Wp X 1 235 2 [vr 74, zx1, vi x2, vi (x3 + (-1))] [] h Q)))) ∧ (0 < x2 → ((0 ≤ (x3 - 1) ∧ (x3 - 1) < 20) ∧ (((h 75 (x3 - 1)) = 0 → Q (some (vi x3)) h) ∧ ((h 75 (x3 - 1)) ≠ 0 → Wp X 1 235 2 [vr 74, zx1, vi x2, vi (x3 + (-1))] [] h Q)))))) ∧ ((h 74 2) ≤ (x3 - 1) → Q (some (vi x3)) h)))))) : Wp X 1 235 2 [vr 74, zx1, vi x2, vi x3] [] h Q := by
  refine wp_iload rfl rfl ?_
  refine wp_ifle (tn := 23) rfl rfl (fun c1 => ?_) (fun c1 => ?_)
  · replace H := H.1 c1
    refine wp_iload rfl rfl ?_
    exact wp_iret rfl rfl H
  · replace H := H.2 c1
    refine wp_aload rfl rfl ?_
    refine wp_iload rfl rfl ?_
    refine wp_iload rfl rfl ?_
    refine wp_iconst rfl ?_
    refine wp_isub rfl ?_
    have g2 := H.1
    replace H := H.2
    refine Wp.topI (y := (x3 - 1)) (w32_I g2) ?_
    refine wp_call (k := 232) (ρ2 := 0) (L2 := [vr 74, vi x2, vi (x3 - 1)]) rfl rfl rfl (Nat.le_of_ble_eq_true rfl) (Nat.le_of_ble_eq_true rfl) (Nat.le_of_ble_eq_true rfl) (rcv_V rfl (congrArg Prod.fst (kf_74 X.1))) rfl ?_
    refine wp_iload rfl rfl ?_
    refine wp_ifltF (tn := 12) rfl rfl (by clear H; omega) ?_
    refine wp_iload rfl rfl ?_
    refine wp_aload rfl rfl ?_
    refine wp_getI (j := 2) rfl (congrArg Prod.fst (kf_74 X.1)) rfl ?_
    refine wp_iclt (tn := 14) rfl rfl (fun c3 => ?_) (fun c3 => ?_)
    · replace H := H.1 c3
      refine wp_iload rfl rfl ?_
      refine wp_ifle (tn := 27) rfl rfl (fun c4 => ?_) (fun c4 => ?_)
      · replace H := H.1 c4
        refine wp_aload rfl rfl ?_
        refine wp_getR (r := 75) rfl (congrArg Prod.fst (kf_74 X.1)) rfl ?_
        refine wp_iload rfl rfl ?_
        have g5 := H.1
        replace H := H.2
        refine wp_iaload rfl (kf_76 X.1) g5 ?_
        refine wp_iret rfl rfl ?_
        show Wp X _ 235 14 [vr 74, zx1, vi x2, vi x3] [vi (h 76 (x3 - 1))] _ _
        refine wp_ifeq (tn := 23) rfl rfl (fun c6 => ?_) (fun c6 => ?_)
        · replace H := H.1 c6
          refine wp_iload rfl rfl ?_
          exact wp_iret rfl rfl H
        · replace H := H.2 c6
          refine wp_iincR (L2 := [vr 74, zx1, vi x2, vi (x3 + (-1))]) rfl rfl (by clear H; unfold R32; omega) rfl ?_
          refine wp_goto (tn := 2) rfl rfl ?_
          exact H
      · replace H := H.2 c4
        refine wp_aload rfl rfl ?_
        refine wp_getR (r := 74) rfl (congrArg Prod.fst (kf_74 X.1)) rfl ?_
        refine wp_iload rfl rfl ?_
        have g7 := H.1
        replace H := H.2
        refine wp_iaload rfl (kf_75 X.1) g7 ?_
        refine wp_goto (tn := 33) rfl rfl ?_
        refine wp_iret rfl rfl ?_
        show Wp X _ 235 14 [vr 74, zx1, vi x2, vi x3] [vi (h 75 (x3 - 1))] _ _
        refine wp_ifeq (tn := 23) rfl rfl (fun c8 => ?_) (fun c8 => ?_)
        · replace H := H.1 c8
          refine wp_iload rfl rfl ?_
          exact wp_iret rfl rfl H
        · replace H := H.2 c8
          refine wp_iincR (L2 := [vr 74, zx1, vi x2, vi (x3 + (-1))]) rfl rfl (by clear H; unfold R32; omega) rfl ?_
          refine wp_goto (tn := 2) rfl rfl ?_
          exact H
    · replace H := H.2 c3
      refine wp_iconst rfl ?_
      refine wp_iret rfl rfl ?_
      show Wp X _ 235 14 [vr 74, zx1, vi x2, vi x3] [vi 0] _ _
      refine wp_ifeqT (tn := 23) rfl rfl (by decide) ?_
      refine wp_iload rfl rfl ?_
      exact wp_iret rfl rfl H
/-- ZoneRules.empty()V, from 0 -/
theorem S244_49_0 {X : Nat × (Int → Int)} {h : HP} {Q : bQ}  (H : Wp X 0 244 2 [vr 49, vi 0] [] h Q) : Wp X 0 244 0 [vr 49, vu] [] h Q := by
  refine wp_iconst rfl ?_
  refine wp_istore (L2 := [vr 49, vi 0]) rfl (Nat.le_of_ble_eq_true rfl) rfl ?_
  exact H
/-- ZoneRules.empty()V, from 2 -/
theorem S244_49_2 {X : Nat × (Int → Int)} {h : HP} {Q : bQ} (x1 : Int) (H : ((9 ≤ x1 → Wp X 0 244 30 [vr 49, vi 0] [] h Q) ∧ (x1 < 9 → ((0 ≤ x1 ∧ x1 < 9) ∧ Wp X 0 244 2 [vr 49, vi (x1 + 1)] [] (upd2 (upd2 h 50 x1 0) 51 x1 0) Q)))) : Wp X 0 244 2 [vr 49, vi x1] [] h Q := by
  refine wp_iload rfl rfl ?_
  refine wp_iconst rfl ?_
  refine wp_icge (tn := 28) rfl rfl (fun c1 => ?_) (fun c1 => ?_)
  · replace H := H.1 c1
    refine wp_iconst rfl ?_
    refine wp_istore (L2 := [vr 49, vi 0]) rfl (Nat.le_of_ble_eq_true rfl) rfl ?_
    exact H
  · replace H := H.2 c1
    refine wp_aload rfl rfl ?_
    refine wp_getR (r := 49) rfl (congrArg Prod.fst (kf_49 X.1)) rfl ?_
    refine wp_iload rfl rfl ?_
    refine wp_sipush rfl ?_
    have g2 := H.1
    replace H := H.2
    refine wp_lastore rfl (kf_50 X.1) g2 ?_
    refine wp_aload rfl rfl ?_
    refine wp_getR (r := 50) rfl (congrArg Prod.fst (kf_49 X.1)) rfl ?_
    refine wp_iload rfl rfl ?_
    refine wp_sipush rfl ?_
    refine wp_lastore rfl (kf_51 X.1) ⟨g2.1, g2.2⟩ ?_
    refine wp_iincR (L2 := [vr 49, vi (x1 + 1)]) rfl rfl (by clear H; unfold R32; omega) rfl ?_
    refine wp_goto (tn := 2) rfl rfl ?_
    exact H
/-- ZoneRules.empty()V, from 30 -/
theorem S244_49_30 {X : Nat × (Int → Int)} {h : HP} {Q : bQ} (x1 : Int) (H : ((5 ≤ x1 → Q none (upd2 (upd2 h 49 3 0) 49 4 0)) ∧ (x1 < 5 → ((0 ≤ x1 ∧ x1 < 5) ∧ Wp X 0 244 30 [vr 49, vi (x1 + 1)] [] (upd2 h 52 x1 0) Q)))) : Wp X 0 244 30 [vr 49, vi x1] [] h Q := by
  refine wp_iload rfl rfl ?_
  refine wp_iconst rfl ?_
  refine wp_icge (tn := 48) rfl rfl (fun c1 => ?_) (fun c1 => ?_)
  · replace H := H.1 c1
    refine wp_aload rfl rfl ?_
    refine wp_sipush rfl ?_
    refine wp_putL (j := 3) rfl (congrArg Prod.fst (kf_49 X.1)) rfl rfl rfl ?_
    refine wp_aload rfl rfl ?_
    refine wp_iconst rfl ?_
    refine wp_putI (j := 4) rfl (congrArg Prod.fst (kf_49 X.1)) rfl rfl rfl ?_
    exact wp_vret rfl rfl H
  · replace H := H.2 c1
    refine wp_aload rfl rfl ?_
    refine wp_getR (r := 51) rfl (congrArg Prod.fst (kf_49 X.1)) rfl ?_
    refine wp_iload rfl rfl ?_
    refine wp_sipush rfl ?_
    have g2 := H.1
    replace H := H.2
    refine wp_lastore rfl (kf_52 X.1) g2 ?_
    refine wp_iincR (L2 := [vr 49, vi (x1 + 1)]) rfl rfl (by clear H; unfold R32; omega) rfl ?_
    refine wp_goto (tn := 30) rfl rfl ?_
    exact H
/-- ZoneRules.empty()V, from 0 -/
theorem S244_57_0 {X : Nat × (Int → Int)} {h : HP} {Q : bQ}  (H : Wp X 0 244 2 [vr 57, vi 0] [] h Q) : Wp X 0 244 0 [vr 57, vu] [] h Q := by
  refine wp_iconst rfl ?_
  refine wp_istore (L2 := [vr 57, vi 0]) rfl (Nat.le_of_ble_eq_true rfl) rfl ?_
  exact H
/-- ZoneRules.empty()V, from 2 -/
theorem S244_57_2 {X : Nat × (Int → Int)} {h : HP} {Q : bQ} (x1 : Int) (H : ((9 ≤ x1 → Wp X 0 244 30 [vr 57, vi 0] [] h Q) ∧ (x1 < 9 → ((0 ≤ x1 ∧ x1 < 9) ∧ Wp X 0 244 2 [vr 57, vi (x1 + 1)] [] (upd2 (upd2 h 58 x1 0) 59 x1 0) Q)))) : Wp X 0 244 2 [vr 57, vi x1] [] h Q := by
  refine wp_iload rfl rfl ?_
  refine wp_iconst rfl ?_
  refine wp_icge (tn := 28) rfl rfl (fun c1 => ?_) (fun c1 => ?_)
  · replace H := H.1 c1
    refine wp_iconst rfl ?_
    refine wp_istore (L2 := [vr 57, vi 0]) rfl (Nat.le_of_ble_eq_true rfl) rfl ?_
    exact H
  · replace H := H.2 c1
    refine wp_aload rfl rfl ?_
    refine wp_getR (r := 57) rfl (congrArg Prod.fst (kf_57 X.1)) rfl ?_
    refine wp_iload rfl rfl ?_
    refine wp_sipush rfl ?_
    have g2 := H.1
    replace H := H.2
    refine wp_lastore rfl (kf_58 X.1) g2 ?_
    refine wp_aload rfl rfl ?_
    refine wp_getR (r := 58) rfl (congrArg Prod.fst (kf_57 X.1)) rfl ?_
    refine wp_iload rfl rfl ?_
    refine wp_sipush rfl ?_
    refine wp_lastore rfl (kf_59 X.1) ⟨g2.1, g2.2⟩ ?_
    refine wp_iincR (L2 := [vr 57, vi (x1 + 1)]) rfl rfl (by clear H; unfold R32; omega) rfl ?_
    refine wp_goto (tn := 2) rfl rfl ?_
    exact H
/-- ZoneRules.empty()V, from 30 -/
theorem S244_57_30 {X : Nat × (Int → Int)} {h : HP} {Q : bQ} (x1 : Int) (H : ((5 ≤ x1 → Q none (upd2 (upd2 h 57 3 0) 57 4 0)) ∧ (x1 < 5 → ((0 ≤ x1 ∧ x1 < 5) ∧ Wp X 0 244 30 [vr 57, vi (x1 + 1)] [] (upd2 h 60 x1 0) Q)))) : Wp X 0 244 30 [vr 57, vi x1] [] h Q := by
  refine wp_iload rfl rfl ?_
  refine wp_iconst rfl ?_
  refine wp_icge (tn := 48) rfl rfl (fun c1 => ?_) (fun c1 => ?_)
  · replace H := H.1 c1
    refine wp_aload rfl rfl ?_
    refine wp_sipush rfl ?_
    refine wp_putL (j := 3) rfl (congrArg Prod.fst (kf_57 X.1)) rfl rfl rfl ?_
    refine wp_aload rfl rfl ?_
    refine wp_iconst rfl ?_
    refine wp_putI (j := 4) rfl (congrArg Prod.fst (kf_57 X.1)) rfl rfl rfl ?_
    exact wp_vret rfl rfl H
  · replace H := H.2 c1
    refine wp_aload rfl rfl ?_
    refine wp_getR (r := 59) rfl (congrArg Prod.fst (kf_57 X.1)) rfl ?_
    refine wp_iload rfl rfl ?_
    refine wp_sipush rfl ?_
    have g2 := H.1
    replace H := H.2
    refine wp_lastore rfl (kf_60 X.1) g2 ?_
    refine wp_iincR (L2 := [vr 57, vi (x1 + 1)]) rfl rfl (by clear H; unfold R32; omega) rfl ?_
    refine wp_goto (tn := 30) rfl rfl ?_
    exact H
/-- ZoneRules.append(IIII)V, from 0 -/
theorem S245_49_0 {X : Nat × (Int → Int)} {h : HP} {Q : bQ} (x1 : Int) (x2 : Int) (x3 : Int) (x4 : Int) (H : ((R32 (8 * x1)) ∧ ((0 < x4 → Wp X 1 245 14 [vr 49, vi x1, vi x2, vi x3, vi x4, vi (8 * x1), vi x4] [] h Q) ∧ (x4 ≤ 0 → Wp X 1 245 14 [vr 49, vi x1, vi x2, vi x3, vi x4, vi (8 * x1), vi 0] [] h Q)))) : Wp X 1 245 0 [vr 49, vi x1, vi x2, vi x3, vi x4, vu, vu] [] h Q := by
  refine wp_iconst rfl ?_
  refine wp_iload rfl rfl ?_
  refine wp_imul rfl ?_
  have g1 := H.1
  replace H := H.2
  refine Wp.topI (y := (8 * x1)) (w32_I g1) ?_
  refine wp_istore (L2 := [vr 49, vi x1, vi x2, vi x3, vi x4, vi (8 * x1), vu]) rfl (Nat.le_of_ble_eq_true rfl) rfl ?_
  refine wp_iconst rfl ?_
  refine wp_iload rfl rfl ?_
  refine wp_call (k := 252) (ρ2 := 0) (L2 := [vi 0, vi x4]) rfl rfl rfl (Nat.le_of_ble_eq_true rfl) (Nat.le_of_ble_eq_true rfl) (Nat.le_of_ble_eq_true rfl) (rcv_S rfl) rfl ?_
  refine wp_iload rfl rfl ?_
  refine wp_iload rfl rfl ?_
  refine wp_iclt (tn := 9) rfl rfl (fun c2 => ?_) (fun c2 => ?_)
  · replace H := H.1 c2
    refine wp_iload rfl rfl ?_
    refine wp_iret rfl rfl ?_
    show Wp X _ 245 12 [vr 49, vi x1, vi x2, vi x3, vi x4, vi (8 * x1), vu] [vi x4] _ _
    refine wp_istore (L2 := [vr 49, vi x1, vi x2, vi x3, vi x4, vi (8 * x1), vi x4]) rfl (Nat.le_of_ble_eq_true rfl) rfl ?_
    exact H
  · replace H := H.2 c2
    refine wp_iload rfl rfl ?_
    refine wp_goto (tn := 10) rfl rfl ?_
    refine wp_iret rfl rfl ?_
    show Wp X _ 245 12 [vr 49, vi x1, vi x2, vi x3, vi x4, vi (8 * x1), vu] [vi 0] _ _
    refine wp_istore (L2 := [vr 49, vi x1, vi x2, vi x3, vi x4, vi (8 * x1), vi 0]) rfl (Nat.le_of_ble_eq_true rfl) rfl ?_
    exact H
/-- ZoneRules.append(IIII)V, from 14 -/
theorem S245_49_14 {X : Nat × (Int → Int)} {h : HP} {Q : bQ} (zx1 : aV) (x2 : Int) (x3 : Int) (zx4 : aV) (x5 : Int) (x6 : Int) (H : ((4 ≤ x6 → Wp X 1 245 61 [vr 49, zx1, vi x2, vi x3, zx4, vi x5, vi 0] [] h Q) ∧ (x6 < 4 → ((R32 (4 + x6)) ∧ ((0 ≤ (4 + x6) ∧ (4 + x6) < 9) ∧ Wp X 1 245 14 [vr 49, zx1, vi x2, vi x3, zx4, vi x5, vi (x6 + 1)] [] (upd2 (upd2 h 50 (4 + x6) ((i64 (h 50 (4 + x6)) ||| i64 ((i64 1 <<< ((i32 x5).toInt64 &&& 63)).toInt)).toInt)) 51 (3 - x6) ((i64 (h 51 (3 - x6)) ||| i64 ((i64 1 <<< ((i32 x5).toInt64 &&& 63)).toInt)).toInt)) Q))))) : Wp X 1 245 14 [vr 49, zx1, vi x2, vi x3, zx4, vi x5, vi x6] [] h Q := by
  refine wp_iload rfl rfl ?_
  refine wp_iconst rfl ?_
  refine wp_icge (tn := 58) rfl rfl (fun c1 => ?_) (fun c1 => ?_)
  · replace H := H.1 c1
    refine wp_iconst rfl ?_
    refine wp_istore (L2 := [vr 49, zx1, vi x2, vi x3, zx4, vi x5, vi 0]) rfl (Nat.le_of_ble_eq_true rfl) rfl ?_
    exact H
  · replace H := H.2 c1
    refine wp_aload rfl rfl ?_
    refine wp_getR (r := 49) rfl (congrArg Prod.fst (kf_49 X.1)) rfl ?_
    refine wp_iconst rfl ?_
    refine wp_iload rfl rfl ?_
    refine wp_iadd rfl ?_
    have g2 := H.1
    replace H := H.2
    refine Wp.topI (y := (4 + x6)) (w32_I g2) ?_
    refine wp_dup2 rfl ?_
    have g3 := H.1
    replace H := H.2
    refine wp_laload rfl (kf_50 X.1) g3 ?_
    refine wp_sipush rfl ?_
    refine wp_iload rfl rfl ?_
    refine wp_lshl rfl ?_
    refine wp_lor rfl ?_
    refine wp_lastore rfl (kf_50 X.1) ⟨g3.1, g3.2⟩ ?_
    refine wp_aload rfl rfl ?_
    refine wp_getR (r := 50) rfl (congrArg Prod.fst (kf_49 X.1)) rfl ?_
    refine wp_iconst rfl ?_
    refine wp_iload rfl rfl ?_
    refine wp_isub rfl ?_
    refine Wp.topI (y := (3 - x6)) (w32_I (by clear H; unfold R32; omega)) ?_
    refine wp_dup2 rfl ?_
    refine wp_laload rfl (kf_51 X.1) ⟨(by clear H; omega), (by clear H; omega)⟩ ?_
    refine Wp.topL (y := (h 51 (3 - x6))) (congrFun (upd2_ne (by decide)) _) ?_
    refine wp_sipush rfl ?_
    refine wp_iload rfl rfl ?_
    refine wp_lshl rfl ?_
    refine wp_lor rfl ?_
    refine wp_lastore rfl (kf_51 X.1) ⟨(by clear H; omega), (by clear H; omega)⟩ ?_
    refine wp_iincR (L2 := [vr 49, zx1, vi x2, vi x3, zx4, vi x5, vi (x6 + 1)]) rfl rfl (by clear H; unfold R32; omega) rfl ?_
    refine wp_goto (tn := 14) rfl rfl ?_
    exact H
/-- ZoneRules.append(IIII)V, from 61 -/
theorem S245_49_61 {X : Nat × (Int → Int)} {h : HP} {Q : bQ} (zx1 : aV) (x2 : Int) (x3 : Int) (zx4 : aV) (x5 : Int) (x6 : Int) (H : ((x3 ≤ x6 → ((R64 (128 - x2)) ∧ (((h 49 4) < x3 → Q none (upd2 (upd2 h 49 3 ((i64 (h 49 3) ||| i64 ((i64 (128 - x2) <<< ((i32 x5).toInt64 &&& 63)).toInt)).toInt)) 49 4 x3)) ∧ (x3 ≤ (h 49 4) → Q none (upd2 (upd2 h 49 3 ((i64 (h 49 3) ||| i64 ((i64 (128 - x2) <<< ((i32 x5).toInt64 &&& 63)).toInt)).toInt)) 49 4 (h 49 4)))))) ∧ (x6 < x3 → ((5 ≤ x6 → ((R64 (128 - x2)) ∧ (((h 49 4) < x3 → Q none (upd2 (upd2 h 49 3 ((i64 (h 49 3) ||| i64 ((i64 (128 - x2) <<< ((i32 x5).toInt64 &&& 63)).toInt)).toInt)) 49 4 x3)) ∧ (x3 ≤ (h 49 4) → Q none (upd2 (upd2 h 49 3 ((i64 (h 49 3) ||| i64 ((i64 (128 - x2) <<< ((i32 x5).toInt64 &&& 63)).toInt)).toInt)) 49 4 (h 49 4)))))) ∧ (x6 < 5 → ((0 ≤ x6 ∧ x6 < 5) ∧ Wp X 1 245 61 [vr 49, zx1, vi x2, vi x3, zx4, vi x5, vi (x6 + 1)] [] (upd2 h 52 x6 ((i64 (h 52 x6) ||| i64 ((i64 255 <<< ((i32 x5).toInt64 &&& 63)).toInt)).toInt)) Q)))))) : Wp X 1 245 61 [vr 49, zx1, vi x2, vi x3, zx4, vi x5, vi x6] [] h Q := by
  refine wp_iload rfl rfl ?_
  refine wp_iload rfl rfl ?_
  refine wp_icge (tn := 95) rfl rfl (fun c1 => ?_) (fun c1 => ?_)
  · replace H := H.1 c1
    refine wp_aload rfl rfl ?_
    refine wp_dupR rfl ?_
    refine wp_getL (j := 3) rfl (congrArg Prod.fst (kf_49 X.1)) rfl ?_
    refine wp_sipush rfl ?_
    refine wp_iload rfl rfl ?_
    refine wp_i2l rfl ?_
    refine wp_lsub rfl ?_
    have g2 := H.1
    replace H := H.2
    refine Wp.topL (y := (128 - x2)) (w64_I g2) ?_
    refine wp_iload rfl rfl ?_
    refine wp_lshl rfl ?_
    refine wp_lor rfl ?_
    refine wp_putL (j := 3) rfl (congrArg Prod.fst (kf_49 X.1)) rfl rfl rfl ?_
    refine wp_aload rfl rfl ?_
    refine wp_aload rfl rfl ?_
    refine wp_getI (j := 4) rfl (congrArg Prod.fst (kf_49 X.1)) rfl ?_
    refine Wp.topI (y := (h 49 4)) (upd2_o (by decide)) ?_
    refine wp_iload rfl rfl ?_
    refine wp_call (k := 252) (ρ2 := 0) (L2 := [vi (h 49 4), vi x3]) rfl rfl rfl (Nat.le_of_ble_eq_true rfl) (Nat.le_of_ble_eq_true rfl) (Nat.le_of_ble_eq_true rfl) (rcv_S rfl) rfl ?_
    refine wp_iload rfl rfl ?_
    refine wp_iload rfl rfl ?_
    refine wp_iclt (tn := 9) rfl rfl (fun c3 => ?_) (fun c3 => ?_)
    · replace H := H.1 c3
      refine wp_iload rfl rfl ?_
      refine wp_iret rfl rfl ?_
      show Wp X _ 245 122 [vr 49, zx1, vi x2, vi x3, zx4, vi x5, vi x6] [vi x3, vr 49] _ _
      refine wp_putI (j := 4) rfl (congrArg Prod.fst (kf_49 X.1)) rfl rfl rfl ?_
      exact wp_vret rfl rfl H
    · replace H := H.2 c3
      refine wp_iload rfl rfl ?_
      refine wp_goto (tn := 10) rfl rfl ?_
      refine wp_iret rfl rfl ?_
      show Wp X _ 245 122 [vr 49, zx1, vi x2, vi x3, zx4, vi x5, vi x6] [vi (h 49 4), vr 49] _ _
      refine wp_putI (j := 4) rfl (congrArg Prod.fst (kf_49 X.1)) rfl rfl rfl ?_
      exact wp_vret rfl rfl H
  · replace H := H.2 c1
    refine wp_iload rfl rfl ?_
    refine wp_iconst rfl ?_
    refine wp_icge (tn := 95) rfl rfl (fun c4 => ?_) (fun c4 => ?_)
    · replace H := H.1 c4
      refine wp_aload rfl rfl ?_
      refine wp_dupR rfl ?_
      refine wp_getL (j := 3) rfl (congrArg Prod.fst (kf_49 X.1)) rfl ?_
      refine wp_sipush rfl ?_
      refine wp_iload rfl rfl ?_
      refine wp_i2l rfl ?_
      refine wp_lsub rfl ?_
      have g5 := H.1
      replace H := H.2
      refine Wp.topL (y := (128 - x2)) (w64_I g5) ?_
      refine wp_iload rfl rfl ?_
      refine wp_lshl rfl ?_
      refine wp_lor rfl ?_
      refine wp_putL (j := 3) rfl (congrArg Prod.fst (kf_49 X.1)) rfl rfl rfl ?_
      refine wp_aload rfl rfl ?_
      refine wp_aload rfl rfl ?_
      refine wp_getI (j := 4) rfl (congrArg Prod.fst (kf_49 X.1)) rfl ?_
      refine Wp.topI (y := (h 49 4)) (upd2_o (by decide)) ?_
      refine wp_iload rfl rfl ?_
      refine wp_call (k := 252) (ρ2 := 0) (L2 := [vi (h 49 4), vi x3]) rfl rfl rfl (Nat.le_of_ble_eq_true rfl) (Nat.le_of_ble_eq_true rfl) (Nat.le_of_ble_eq_true rfl) (rcv_S rfl) rfl ?_
      refine wp_iload rfl rfl ?_
      refine wp_iload rfl rfl ?_
      refine wp_iclt (tn := 9) rfl rfl (fun c6 => ?_) (fun c6 => ?_)
      · replace H := H.1 c6
        refine wp_iload rfl rfl ?_
        refine wp_iret rfl rfl ?_
        show Wp X _ 245 122 [vr 49, zx1, vi x2, vi x3, zx4, vi x5, vi x6] [vi x3, vr 49] _ _
        refine wp_putI (j := 4) rfl (congrArg Prod.fst (kf_49 X.1)) rfl rfl rfl ?_
        exact wp_vret rfl rfl H
      · replace H := H.2 c6
        refine wp_iload rfl rfl ?_
        refine wp_goto (tn := 10) rfl rfl ?_
        refine wp_iret rfl rfl ?_
        show Wp X _ 245 122 [vr 49, zx1, vi x2, vi x3, zx4, vi x5, vi x6] [vi (h 49 4), vr 49] _ _
        refine wp_putI (j := 4) rfl (congrArg Prod.fst (kf_49 X.1)) rfl rfl rfl ?_
        exact wp_vret rfl rfl H
    · replace H := H.2 c4
      refine wp_aload rfl rfl ?_
      refine wp_getR (r := 51) rfl (congrArg Prod.fst (kf_49 X.1)) rfl ?_
      refine wp_iload rfl rfl ?_
      refine wp_dup2 rfl ?_
      have g7 := H.1
      replace H := H.2
      refine wp_laload rfl (kf_52 X.1) g7 ?_
      refine wp_sipush rfl ?_
      refine wp_iload rfl rfl ?_
      refine wp_lshl rfl ?_
      refine wp_lor rfl ?_
      refine wp_lastore rfl (kf_52 X.1) ⟨g7.1, g7.2⟩ ?_
      refine wp_iincR (L2 := [vr 49, zx1, vi x2, vi x3, zx4, vi x5, vi (x6 + 1)]) rfl rfl (by clear H; unfold R32; omega) rfl ?_
      refine wp_goto (tn := 61) rfl rfl ?_
      exact H
/-- ZoneRules.append(IIII)V, from 0 -/
theorem S245_57_0 {X : Nat × (Int → Int)} {h : HP} {Q : bQ} (x1 : Int) (x2 : Int) (x3 : Int) (x4 : Int) (H : ((R32 (8 * x1)) ∧ ((0 < x4 → Wp X 1 245 14 [vr 57, vi x1, vi x2, vi x3, vi x4, vi (8 * x1), vi x4] [] h Q) ∧ (x4 ≤ 0 → Wp X 1 245 14 [vr 57, vi x1, vi x2, vi x3, vi x4, vi (8 * x1), vi 0] [] h Q)))) : Wp X 1 245 0 [vr 57, vi x1, vi x2, vi x3, vi x4, vu, vu] [] h Q := by
  refine wp_iconst rfl ?_
  refine wp_iload rfl rfl ?_
  refine wp_imul rfl ?_
  have g1 := H.1
  replace H := H.2
  refine Wp.topI (y := (8 * x1)) (w32_I g1) ?_
  refine wp_istore (L2 := [vr 57, vi x1, vi x2, vi x3, vi x4, vi (8 * x1), vu]) rfl (Nat.le_of_ble_eq_true rfl) rfl ?_
  refine wp_iconst rfl ?_
  refine wp_iload rfl rfl ?_
  refine wp_call (k := 252) (ρ2 := 0) (L2 := [vi 0, vi x4]) rfl rfl rfl (Nat.le_of_ble_eq_true rfl) (Nat.le_of_ble_eq_true rfl) (Nat.le_of_ble_eq_true rfl) (rcv_S rfl) rfl ?_
  refine wp_iload rfl rfl ?_
  refine wp_iload rfl rfl ?_
  refine wp_iclt (tn := 9) rfl rfl (fun c2 => ?_) (fun c2 => ?_)
  · replace H := H.1 c2
    refine wp_iload rfl rfl ?_
    refine wp_iret rfl rfl ?_
    show Wp X _ 245 12 [vr 57, vi x1, vi x2, vi x3, vi x4, vi (8 * x1), vu] [vi x4] _ _
    refine wp_istore (L2 := [vr 57, vi x1, vi x2, vi x3, vi x4, vi (8 * x1), vi x4]) rfl (Nat.le_of_ble_eq_true rfl) rfl ?_
    exact H
  · replace H := H.2 c2
    refine wp_iload rfl rfl ?_
    refine wp_goto (tn := 10) rfl rfl ?_
    refine wp_iret rfl rfl ?_
    show Wp X _ 245 12 [vr 57, vi x1, vi x2, vi x3, vi x4, vi (8 * x1), vu] [vi 0] _ _
    refine wp_istore (L2 := [vr 57, vi x1, vi x2, vi x3, vi x4, vi (8 * x1), vi 0]) rfl (Nat.le_of_ble_eq_true rfl) rfl ?_
    exact H
/-- ZoneRules.append(IIII)V, from 14 -/
theorem S245_57_14 {X : Nat × (Int → Int)} {h : HP} {Q : bQ} (zx1 : aV) (x2 : Int) (x3 : Int) (zx4 : aV) (x5 : Int) (x6 : Int) (H : ((4 ≤ x6 → Wp X 1 245 61 [vr 57, zx1, vi x2, vi x3, zx4, vi x5, vi 0] [] h Q) ∧ (x6 < 4 → ((R32 (4 + x6)) ∧ ((0 ≤ (4 + x6) ∧ (4 + x6) < 9) ∧ Wp X 1 245 14 [vr 57, zx1, vi x2, vi x3, zx4, vi x5, vi (x6 + 1)] [] (upd2 (upd2 h 58 (4 + x6) ((i64 (h 58 (4 + x6)) ||| i64 ((i64 1 <<< ((i32 x5).toInt64 &&& 63)).toInt)).toInt)) 59 (3 - x6) ((i64 (h 59 (3 - x6)) ||| i64 ((i64 1 <<< ((i32 x5).toInt64 &&& 63)).toInt)).toInt)) Q))))) : Wp X 1 245 14 [vr 57, zx1, vi x2, vi x3, zx4, vi x5, vi x6] [] h Q := by
  refine wp_iload rfl rfl ?_
  refine wp_iconst rfl ?_
  refine wp_icge (tn := 58) rfl rfl (fun c1 => ?_) (fun c1 => ?_)
  · replace H := H.1 c1
    refine wp_iconst rfl ?_
    refine wp_istore (L2 := [vr 57, zx1, vi x2, vi x3, zx4, vi x5, vi 0]) rfl (Nat.le_of_ble_eq_true rfl) rfl ?_
    exact H
  · replace H := H.2 c1
    refine wp_aload rfl rfl ?_
    refine wp_getR (r := 57) rfl (congrArg Prod.fst (kf_57 X.1)) rfl ?_
    refine wp_iconst rfl ?_
    refine wp_iload rfl rfl ?_
    refine wp_iadd rfl ?_
    have g2 := H.1
    replace H := H.2
    refine Wp.topI (y := (4 + x6)) (w32_I g2) ?_
    refine wp_dup2 rfl ?_
    have g3 := H.1
    replace H := H.2
    refine wp_laload rfl (kf_58 X.1) g3 ?_
    refine wp_sipush rfl ?_
    refine wp_iload rfl rfl ?_
    refine wp_lshl rfl ?_
    refine wp_lor rfl ?_
    refine wp_lastore rfl (kf_58 X.1) ⟨g3.1, g3.2⟩ ?_
    refine wp_aload rfl rfl ?_
    refine wp_getR (r := 58) rfl (congrArg Prod.fst (kf_57 X.1)) rfl ?_
    refine wp_iconst rfl ?_
    refine wp_iload rfl rfl ?_
    refine wp_isub rfl ?_
    refine Wp.topI (y := (3 - x6)) (w32_I (by clear H; unfold R32; omega)) ?_
    refine wp_dup2 rfl ?_
    refine wp_laload rfl (kf_59 X.1) ⟨(by clear H; omega), (by clear H; omega)⟩ ?_
    refine Wp.topL (y := (h 59 (3 - x6))) (congrFun (upd2_ne (by decide)) _) ?_
    refine wp_sipush rfl ?_
    refine wp_iload rfl rfl ?_
    refine wp_lshl rfl ?_
    refine wp_lor rfl ?_
    refine wp_lastore rfl (kf_59 X.1) ⟨(by clear H; omega), (by clear H; omega)⟩ ?_
    refine wp_iincR (L2 := [vr 57, zx1, vi x2, vi x3, zx4, vi x5, vi (x6 + 1)]) rfl rfl (by clear H; unfold R32; omega) rfl ?_
    refine wp_goto (tn := 14) rfl rfl ?_
    exact H
/-- ZoneRules.append(IIII)V, from 61 -/
theorem S245_57_61 {X : Nat × (Int → Int)} {h : HP} {Q : bQ} (zx1 : aV) (x2 : Int) (x3 : Int) (zx4 : aV) (x5 : Int) (x6 : Int) (H : ((x3 ≤ x6 → ((R64 (128 - x2)) ∧ (((h 57 4) < x3 → Q none (upd2 (upd2 h 57 3 ((i64 (h 57 3) ||| i64 ((i64 (128 - x2) <<< ((i32 x5).toInt64 &&& 63)).toInt)).toInt)) 57 4 x3)) ∧ (x3 ≤ (h 57 4) → Q none (upd2 (upd2 h 57 3 ((i64 (h 57 3) ||| i64 ((i64 (128 - x2) <<< ((i32 x5).toInt64 &&& 63)).toInt)).toInt)) 57 4 (h 57 4)))))) ∧ (x6 < x3 → ((5 ≤ x6 → ((R64 (128 - x2)) ∧ (((h 57 4) < x3 → Q none (upd2 (upd2 h 57 3 ((i64 (h 57 3) ||| i64 ((i64 (128 - x2) <<< ((i32 x5).toInt64 &&& 63)).toInt)).toInt)) 57 4 x3)) ∧ (x3 ≤ (h 57 4) → Q none (upd2 (upd2 h 57 3 ((i64 (h 57 3) ||| i64 ((i64 (128 - x2) <<< ((i32 x5).toInt64 &&& 63)).toInt)).toInt)) 57 4 (h 57 4)))))) ∧ (x6 < 5 → ((0 ≤ x6 ∧ x6 < 5) ∧ Wp X 1 245 61 [vr 57, zx1, vi x2, vi x3, zx4, vi x5, vi (x6 + 1)] [] (upd2 h 60 x6 ((i64 (h 60 x6) ||| i64 ((i64 255 <<< ((i32 x5).toInt64 &&& 63)).toInt)).toInt)) Q)))))) : Wp X 1 245 61 [vr 57, zx1, vi x2, vi x3, zx4, vi x5, vi x6] [] h Q := by
  refine wp_iload rfl rfl ?_
  refine wp_iload rfl rfl ?_
  refine wp_icge (tn := 95) rfl rfl (fun c1 => ?_) (fun c1 => ?_)
  · replace H := H.1 c1
    refine wp_aload rfl rfl ?_
    refine wp_dupR rfl ?_
    refine wp_getL (j := 3) rfl (congrArg Prod.fst (kf_57 X.1)) rfl ?_
    refine wp_sipush rfl ?_
    refine wp_iload rfl rfl ?_
    refine wp_i2l rfl ?_
    refine wp_lsub rfl ?_
    have g2 := H.1
    replace H := H.2
    refine Wp.topL (y := (128 - x2)) (w64_I g2) ?_
    refine wp_iload rfl rfl ?_
    refine wp_lshl rfl ?_
    refine wp_lor rfl ?_
    refine wp_putL (j := 3) rfl (congrArg Prod.fst (kf_57 X.1)) rfl rfl rfl ?_
    refine wp_aload rfl rfl ?_
    refine wp_aload rfl rfl ?_
    refine wp_getI (j := 4) rfl (congrArg Prod.fst (kf_57 X.1)) rfl ?_
    refine Wp.topI (y := (h 57 4)) (upd2_o (by decide)) ?_
    refine wp_iload rfl rfl ?_
    refine wp_call (k := 252) (ρ2 := 0) (L2 := [vi (h 57 4), vi x3]) rfl rfl rfl (Nat.le_of_ble_eq_true rfl) (Nat.le_of_ble_eq_true rfl) (Nat.le_of_ble_eq_true rfl) (rcv_S rfl) rfl ?_
    refine wp_iload rfl rfl ?_
    refine wp_iload rfl rfl ?_
    refine wp_iclt (tn := 9) rfl rfl (fun c3 => ?_) (fun c3 => ?_)
    · replace H := H.1 c3
      refine wp_iload rfl rfl ?_
      refine wp_iret rfl rfl ?_
      show Wp X _ 245 122 [vr 57, zx1, vi x2, vi x3, zx4, vi x5, vi x6] [vi x3, vr 57] _ _
      refine wp_putI (j := 4) rfl (congrArg Prod.fst (kf_57 X.1)) rfl rfl rfl ?_
      exact wp_vret rfl rfl H
    · replace H := H.2 c3
      refine wp_iload rfl rfl ?_
      refine wp_goto (tn := 10) rfl rfl ?_
      refine wp_iret rfl rfl ?_
      show Wp X _ 245 122 [vr 57, zx1, vi x2, vi x3, zx4, vi x5, vi x6] [vi (h 57 4), vr 57] _ _
      refine wp_putI (j := 4) rfl (congrArg Prod.fst (kf_57 X.1)) rfl rfl rfl ?_
      exact wp_vret rfl rfl H
  · replace H := H.2 c1
    refine wp_iload rfl rfl ?_
    refine wp_iconst rfl ?_
    refine wp_icge (tn := 95) rfl rfl (fun c4 => ?_) (fun c4 => ?_)
    · replace H := H.1 c4
      refine wp_aload rfl rfl ?_
      refine wp_dupR rfl ?_
      refine wp_getL (j := 3) rfl (congrArg Prod.fst (kf_57 X.1)) rfl ?_
      refine wp_sipush rfl ?_
      refine wp_iload rfl rfl ?_
      refine wp_i2l rfl ?_
      refine wp_lsub rfl ?_
      have g5 := H.1
      replace H := H.2
      refine Wp.topL (y := (128 - x2)) (w64_I g5) ?_
      refine wp_iload rfl rfl ?_
      refine wp_lshl rfl ?_
      refine wp_lor rfl ?_
      refine wp_putL (j := 3) rfl (congrArg Prod.fst (kf_57 X.1)) rfl rfl rfl ?_
      refine wp_aload rfl rfl ?_
      refine wp_aload rfl rfl ?_
      refine wp_getI (j := 4) rfl (congrArg Prod.fst (kf_57 X.1)) rfl ?_
      refine Wp.topI (y := (h 57 4)) (upd2_o (by decide)) ?_
      refine wp_iload rfl rfl ?_
      refine wp_call (k := 252) (ρ2 := 0) (L2 := [vi (h 57 4), vi x3]) rfl rfl rfl (Nat.le_of_ble_eq_true rfl) (Nat.le_of_ble_eq_true rfl) (Nat.le_of_ble_eq_true rfl) (rcv_S rfl) rfl ?_
      refine wp_iload rfl rfl ?_
      refine wp_iload rfl rfl ?_
      refine wp_iclt (tn := 9) rfl rfl (fun c6 => ?_) (fun c6 => ?_)
      · replace H := H.1 c6
        refine wp_iload rfl rfl ?_
        refine wp_iret rfl rfl ?_
        show Wp X _ 245 122 [vr 57, zx1, vi x2, vi x3, zx4, vi x5, vi x6] [vi x3, vr 57] _ _
        refine wp_putI (j := 4) rfl (congrArg Prod.fst (kf_57 X.1)) rfl rfl rfl ?_
        exact wp_vret rfl rfl H
      · replace H := H.2 c6
        refine wp_iload rfl rfl ?_
        refine wp_goto (tn := 10) rfl rfl ?_
        refine wp_iret rfl rfl ?_
        show Wp X _ 245 122 [vr 57, zx1, vi x2, vi x3, zx4, vi x5, vi x6] [vi (h 57 4), vr 57] _ _
        refine wp_putI (j := 4) rfl (congrArg Prod.fst (kf_57 X.1)) rfl rfl rfl ?_
        exact wp_vret rfl rfl H
    · replace H := H.2 c4
      refine wp_aload rfl rfl ?_
      refine wp_getR (r := 59) rfl (congrArg Prod.fst (kf_57 X.1)) rfl ?_
      refine wp_iload rfl rfl ?_
      refine wp_dup2 rfl ?_
      have g7 := H.1
      replace H := H.2
      refine wp_laload rfl (kf_60 X.1) g7 ?_
      refine wp_sipush rfl ?_
      refine wp_iload rfl rfl ?_
      refine wp_lshl rfl ?_
      refine wp_lor rfl ?_
      refine wp_lastore rfl (kf_60 X.1) ⟨g7.1, g7.2⟩ ?_
      refine wp_iincR (L2 := [vr 57, zx1, vi x2, vi x3, zx4, vi x5, vi (x6 + 1)]) rfl rfl (by clear H; unfold R32; omega) rfl ?_
      refine wp_goto (tn := 61) rfl rfl ?_
      exact H
/-- ZoneRules.reachedAt(L$Row;I)J, from 0 -/
theorem S246_49_37_0 {X : Nat × (Int → Int)} {h : HP} {Q : bQ} (x2 : Int) (H : Wp X 2 246 14 [vr 49, vr 37, vi x2, vl (h 49 3), vu, vl (h 49 3), vu, vi 0, vu] [] h Q) : Wp X 2 246 0 [vr 49, vr 37, vi x2, vu, vu, vu, vu, vu, vu] [] h Q := by
  refine wp_aload rfl rfl ?_
  refine wp_getL (j := 3) rfl (congrArg Prod.fst (kf_49 X.1)) rfl ?_
  refine wp_lstore (L2 := [vr 49, vr 37, vi x2, vl (h 49 3), vu, vu, vu, vu, vu]) rfl (Nat.le_of_ble_eq_true rfl) rfl ?_
  refine wp_aload rfl rfl ?_
  refine wp_getL (j := 3) rfl (congrArg Prod.fst (kf_49 X.1)) rfl ?_
  refine wp_lstore (L2 := [vr 49, vr 37, vi x2, vl (h 49 3), vu, vl (h 49 3), vu, vu, vu]) rfl (Nat.le_of_ble_eq_true rfl) rfl ?_
  refine wp_iconst rfl ?_
  refine wp_istore (L2 := [vr 49, vr 37, vi x2, vl (h 49 3), vu, vl (h 49 3), vu, vi 0, vu]) rfl (Nat.le_of_ble_eq_true rfl) rfl ?_
  exact H
/-- ZoneRules.reachedAt(L$Row;I)J, from 14 -/
theorem S246_49_37_14 {X : Nat × (Int → Int)} {h : HP} {Q : bQ} (x2 : Int) (x3 : Int) (x5 : Int) (x7 : Int) (zx8 : aV) (H : (((h 49 4) ≤ x7 → Q (some (vl ((i64 ((i64 x3 ||| i64 x5).toInt) &&& i64 (-9187201950435737472)).toInt))) h) ∧ (x7 < (h 49 4) → ((x2 < x7 → Q (some (vl ((i64 ((i64 x3 ||| i64 x5).toInt) &&& i64 (-9187201950435737472)).toInt))) h) ∧ (x7 ≤ x2 → ((R32 (x2 - x7)) ∧ (((x2 - x7) < 0 → ((x7 < 0 → ((R32 (x7 + 1)) ∧ Wp X 2 246 14 [vr 49, vr 37, vi x2, vl (w64 (x3 + 0)), vu, vl (w64 (x5 + 0)), vu, vi (x7 + 1), vi 8] [] h Q)) ∧ (0 ≤ x7 → ((x7 < 5 → Wp X 2 246 14 [vr 49, vr 37, vi x2, vl (w64 (x3 + ((i64 (h 50 8) &&& i64 (h 52 x7)).toInt))), vu, vl (w64 (x5 + ((i64 (h 51 8) &&& i64 (h 52 x7)).toInt))), vu, vi (x7 + 1), vi 8] [] h Q) ∧ (5 ≤ x7 → ((R32 (x7 + 1)) ∧ Wp X 2 246 14 [vr 49, vr 37, vi x2, vl (w64 (x3 + 0)), vu, vl (w64 (x5 + 0)), vu, vi (x7 + 1), vi 8] [] h Q)))))) ∧ (0 ≤ (x2 - x7) → (((h 37 6) ≤ (x2 - x7) → ((x7 < 0 → ((R32 (x7 + 1)) ∧ Wp X 2 246 14 [vr 49, vr 37, vi x2, vl (w64 (x3 + 0)), vu, vl (w64 (x5 + 0)), vu, vi (x7 + 1), vi 8] [] h Q)) ∧ (0 ≤ x7 → ((x7 < 5 → Wp X 2 246 14 [vr 49, vr 37, vi x2, vl (w64 (x3 + ((i64 (h 50 8) &&& i64 (h 52 x7)).toInt))), vu, vl (w64 (x5 + ((i64 (h 51 8) &&& i64 (h 52 x7)).toInt))), vu, vi (x7 + 1), vi 8] [] h Q) ∧ (5 ≤ x7 → ((R32 (x7 + 1)) ∧ Wp X 2 246 14 [vr 49, vr 37, vi x2, vl (w64 (x3 + 0)), vu, vl (w64 (x5 + 0)), vu, vi (x7 + 1), vi 8] [] h Q)))))) ∧ ((x2 - x7) < (h 37 6) → ((0 ≤ (x2 - x7) ∧ (x2 - x7) < 20) ∧ (((h 40 (x2 - x7)) < 0 → ((R32 (x7 + 1)) ∧ Wp X 2 246 14 [vr 49, vr 37, vi x2, vl (w64 (x3 + 0)), vu, vl (w64 (x5 + 0)), vu, vi (x7 + 1), vi (h 40 (x2 - x7))] [] h Q)) ∧ (0 ≤ (h 40 (x2 - x7)) → ((9 ≤ (h 40 (x2 - x7)) → ((R32 (x7 + 1)) ∧ Wp X 2 246 14 [vr 49, vr 37, vi x2, vl (w64 (x3 + 0)), vu, vl (w64 (x5 + 0)), vu, vi (x7 + 1), vi (h 40 (x2 - x7))] [] h Q)) ∧ ((h 40 (x2 - x7)) < 9 → ((x7 < 0 → ((R32 (x7 + 1)) ∧ Wp X 2 246 14 [vr 49, vr 37, vi x2, vl (w64 (x3 + 0)), vu, vl (w64 (x5 + 0)), vu, vi (x7 + 1), vi (h 40 (x2 - x7))] [] h Q)) ∧ (0 ≤ x7 → ((x7 < 5 → Wp X 2 246 14 [vr 49, vr 37, vi x2, vl (w64 (x3 + ((i64 (h 50 (h 40 (x2 - x7))) &&& i64 (h 52 x7)).toInt))), vu, vl (w64 (x5 + ((i64 (h 51 (h 40 (x2 - x7))) &&& i64 (h 52 x7)).toInt))), vu, vi (x7 + 1), vi (h 40 (x2 - x7))] [] h Q) ∧ (5 ≤ x7 → ((R32 (x7 + 1)) ∧ Wp X 2 246 14 [vr 49, vr 37, vi x2, vl (w64 (x3 + 0)), vu, vl (w64 (x5 + 0)), vu, vi (x7 + 1), vi (h 40 (x2 - x7))] [] h Q)))))))))))))))))))) : Wp X 2 246 14 [vr 49, vr 37, vi x2, vl x3, vu, vl x5, vu, vi x7, zx8] [] h Q := by
  refine wp_iload rfl rfl ?_
  refine wp_aload rfl rfl ?_
  refine wp_getI (j := 4) rfl (congrArg Prod.fst (kf_49 X.1)) rfl ?_
  refine wp_icge (tn := 69) rfl rfl (fun c1 => ?_) (fun c1 => ?_)
  · replace H := H.1 c1
    refine wp_lload rfl rfl ?_
    refine wp_lload rfl rfl ?_
    refine wp_lor rfl ?_
    refine wp_sipush rfl ?_
    refine wp_land rfl ?_
    exact wp_lret rfl rfl H
  · replace H := H.2 c1
    refine wp_iload rfl rfl ?_
    refine wp_iload rfl rfl ?_
    refine wp_icgt (tn := 69) rfl rfl (fun c2 => ?_) (fun c2 => ?_)
    · replace H := H.1 c2
      refine wp_lload rfl rfl ?_
      refine wp_lload rfl rfl ?_
      refine wp_lor rfl ?_
      refine wp_sipush rfl ?_
      refine wp_land rfl ?_
      exact wp_lret rfl rfl H
    · replace H := H.2 c2
      refine wp_aload rfl rfl ?_
      refine wp_iload rfl rfl ?_
      refine wp_iload rfl rfl ?_
      refine wp_isub rfl ?_
      have g3 := H.1
      replace H := H.2
      refine Wp.topI (y := (x2 - x7)) (w32_I g3) ?_
      refine wp_call (k := 192) (ρ2 := 1) (L2 := [vr 37, vi (x2 - x7)]) rfl rfl rfl (Nat.le_of_ble_eq_true rfl) (Nat.le_of_ble_eq_true rfl) (Nat.le_of_ble_eq_true rfl) (rcv_V rfl (congrArg Prod.fst (kf_37 X.1))) rfl ?_
      refine wp_aload rfl rfl ?_
      refine wp_iload rfl rfl ?_
      refine wp_call (k := 189) (ρ2 := 0) (L2 := [vr 37, vi (x2 - x7)]) rfl rfl rfl (Nat.le_of_ble_eq_true rfl) (Nat.le_of_ble_eq_true rfl) (Nat.le_of_ble_eq_true rfl) (rcv_V rfl (congrArg Prod.fst (kf_37 X.1))) rfl ?_
      refine wp_iload rfl rfl ?_
      refine wp_iflt (tn := 16) rfl rfl (fun c4 => ?_) (fun c4 => ?_)
      · replace H := H.1 c4
        refine wp_iconst rfl ?_
        refine wp_zret rfl rfl (by decide) ?_
        show Wp X _ 192 5 [vr 37, vi (x2 - x7)] [vi 0] _ _
        refine wp_ifeqT (tn := 17) rfl rfl (by decide) ?_
        refine wp_iconst rfl ?_
        refine wp_iret rfl rfl ?_
        show Wp X _ 246 37 [vr 49, vr 37, vi x2, vl x3, vu, vl x5, vu, vi x7, zx8] [vi 8] _ _
        refine wp_istore (L2 := [vr 49, vr 37, vi x2, vl x3, vu, vl x5, vu, vi x7, vi 8]) rfl (Nat.le_of_ble_eq_true rfl) rfl ?_
        refine wp_lload rfl rfl ?_
        refine wp_aload rfl rfl ?_
        refine wp_iload rfl rfl ?_
        refine wp_iload rfl rfl ?_
        refine wp_call (k := 239) (ρ2 := 0) (L2 := [vr 49, vi 8, vi x7]) rfl rfl rfl (Nat.le_of_ble_eq_true rfl) (Nat.le_of_ble_eq_true rfl) (Nat.le_of_ble_eq_true rfl) (rcv_V rfl (congrArg Prod.fst (kf_49 X.1))) rfl ?_
        refine wp_iload rfl rfl ?_
        refine wp_ifltF (tn := 19) rfl rfl (by decide) ?_
        refine wp_iload rfl rfl ?_
        refine wp_iconst rfl ?_
        refine wp_icgeF (tn := 19) rfl rfl (by decide) ?_
        refine wp_iload rfl rfl ?_
        refine wp_iflt (tn := 19) rfl rfl (fun c5 => ?_) (fun c5 => ?_)
        · replace H := H.1 c5
          refine wp_sipush rfl ?_
          refine wp_lret rfl rfl ?_
          show Wp X _ 246 48 [vr 49, vr 37, vi x2, vl x3, vu, vl x5, vu, vi x7, vi 8] [vl 0, vl x3] _ _
          refine wp_ladd rfl ?_
          refine wp_lstore (L2 := [vr 49, vr 37, vi x2, vl (w64 (x3 + 0)), vu, vl x5, vu, vi x7, vi 8]) rfl (Nat.le_of_ble_eq_true rfl) rfl ?_
          refine wp_lload rfl rfl ?_
          refine wp_aload rfl rfl ?_
          refine wp_iload rfl rfl ?_
          refine wp_iload rfl rfl ?_
          refine wp_call (k := 240) (ρ2 := 0) (L2 := [vr 49, vi 8, vi x7]) rfl rfl rfl (Nat.le_of_ble_eq_true rfl) (Nat.le_of_ble_eq_true rfl) (Nat.le_of_ble_eq_true rfl) (rcv_V rfl (congrArg Prod.fst (kf_49 X.1))) rfl ?_
          refine wp_iload rfl rfl ?_
          refine wp_ifltF (tn := 19) rfl rfl (by decide) ?_
          refine wp_iload rfl rfl ?_
          refine wp_iconst rfl ?_
          refine wp_icgeF (tn := 19) rfl rfl (by decide) ?_
          refine wp_iload rfl rfl ?_
          refine wp_ifltT (tn := 19) rfl rfl c5 ?_
          refine wp_sipush rfl ?_
          refine wp_lret rfl rfl ?_
          show Wp X _ 246 60 [vr 49, vr 37, vi x2, vl (w64 (x3 + 0)), vu, vl x5, vu, vi x7, vi 8] [vl 0, vl x5] _ _
          refine wp_ladd rfl ?_
          refine wp_lstore (L2 := [vr 49, vr 37, vi x2, vl (w64 (x3 + 0)), vu, vl (w64 (x5 + 0)), vu, vi x7, vi 8]) rfl (Nat.le_of_ble_eq_true rfl) rfl ?_
          have g6 := H.1
          replace H := H.2
          refine wp_iincR (L2 := [vr 49, vr 37, vi x2, vl (w64 (x3 + 0)), vu, vl (w64 (x5 + 0)), vu, vi (x7 + 1), vi 8]) rfl rfl g6 rfl ?_
          refine wp_goto (tn := 14) rfl rfl ?_
          exact H
        · replace H := H.2 c5
          refine wp_iload rfl rfl ?_
          refine wp_iconst rfl ?_
          refine wp_iclt (tn := 21) rfl rfl (fun c7 => ?_) (fun c7 => ?_)
          · replace H := H.1 c7
            refine wp_aload rfl rfl ?_
            refine wp_getR (r := 49) rfl (congrArg Prod.fst (kf_49 X.1)) rfl ?_
            refine wp_iload rfl rfl ?_
            refine wp_laload rfl (kf_50 X.1) (by decide) ?_
            refine wp_aload rfl rfl ?_
            refine wp_getR (r := 51) rfl (congrArg Prod.fst (kf_49 X.1)) rfl ?_
            refine wp_iload rfl rfl ?_
            refine wp_laload rfl (kf_52 X.1) ⟨c5, c7⟩ ?_
            refine wp_land rfl ?_
            refine wp_lret rfl rfl ?_
            show Wp X _ 246 48 [vr 49, vr 37, vi x2, vl x3, vu, vl x5, vu, vi x7, vi 8] [vl ((i64 (h 50 8) &&& i64 (h 52 x7)).toInt), vl x3] _ _
            refine wp_ladd rfl ?_
            refine wp_lstore (L2 := [vr 49, vr 37, vi x2, vl (w64 (x3 + ((i64 (h 50 8) &&& i64 (h 52 x7)).toInt))), vu, vl x5, vu, vi x7, vi 8]) rfl (Nat.le_of_ble_eq_true rfl) rfl ?_
            refine wp_lload rfl rfl ?_
            refine wp_aload rfl rfl ?_
            refine wp_iload rfl rfl ?_
            refine wp_iload rfl rfl ?_
            refine wp_call (k := 240) (ρ2 := 0) (L2 := [vr 49, vi 8, vi x7]) rfl rfl rfl (Nat.le_of_ble_eq_true rfl) (Nat.le_of_ble_eq_true rfl) (Nat.le_of_ble_eq_true rfl) (rcv_V rfl (congrArg Prod.fst (kf_49 X.1))) rfl ?_
            refine wp_iload rfl rfl ?_
            refine wp_ifltF (tn := 19) rfl rfl (by decide) ?_
            refine wp_iload rfl rfl ?_
            refine wp_iconst rfl ?_
            refine wp_icgeF (tn := 19) rfl rfl (by decide) ?_
            refine wp_iload rfl rfl ?_
            refine wp_ifltF (tn := 19) rfl rfl c5 ?_
            refine wp_iload rfl rfl ?_
            refine wp_iconst rfl ?_
            refine wp_icltT (tn := 21) rfl rfl c7 ?_
            refine wp_aload rfl rfl ?_
            refine wp_getR (r := 50) rfl (congrArg Prod.fst (kf_49 X.1)) rfl ?_
            refine wp_iload rfl rfl ?_
            refine wp_laload rfl (kf_51 X.1) (by decide) ?_
            refine wp_aload rfl rfl ?_
            refine wp_getR (r := 51) rfl (congrArg Prod.fst (kf_49 X.1)) rfl ?_
            refine wp_iload rfl rfl ?_
            refine wp_laload rfl (kf_52 X.1) ⟨c5, c7⟩ ?_
            refine wp_land rfl ?_
            refine wp_lret rfl rfl ?_
            show Wp X _ 246 60 [vr 49, vr 37, vi x2, vl (w64 (x3 + ((i64 (h 50 8) &&& i64 (h 52 x7)).toInt))), vu, vl x5, vu, vi x7, vi 8] [vl ((i64 (h 51 8) &&& i64 (h 52 x7)).toInt), vl x5] _ _
            refine wp_ladd rfl ?_
            refine wp_lstore (L2 := [vr 49, vr 37, vi x2, vl (w64 (x3 + ((i64 (h 50 8) &&& i64 (h 52 x7)).toInt))), vu, vl (w64 (x5 + ((i64 (h 51 8) &&& i64 (h 52 x7)).toInt))), vu, vi x7, vi 8]) rfl (Nat.le_of_ble_eq_true rfl) rfl ?_
            refine wp_iincR (L2 := [vr 49, vr 37, vi x2, vl (w64 (x3 + ((i64 (h 50 8) &&& i64 (h 52 x7)).toInt))), vu, vl (w64 (x5 + ((i64 (h 51 8) &&& i64 (h 52 x7)).toInt))), vu, vi (x7 + 1), vi 8]) rfl rfl (by clear H; unfold R32; omega) rfl ?_
            refine wp_goto (tn := 14) rfl rfl ?_
            exact H
          · replace H := H.2 c7
            refine wp_sipush rfl ?_
            refine wp_lret rfl rfl ?_
            show Wp X _ 246 48 [vr 49, vr 37, vi x2, vl x3, vu, vl x5, vu, vi x7, vi 8] [vl 0, vl x3] _ _
            refine wp_ladd rfl ?_
            refine wp_lstore (L2 := [vr 49, vr 37, vi x2, vl (w64 (x3 + 0)), vu, vl x5, vu, vi x7, vi 8]) rfl (Nat.le_of_ble_eq_true rfl) rfl ?_
            refine wp_lload rfl rfl ?_
            refine wp_aload rfl rfl ?_
            refine wp_iload rfl rfl ?_
            refine wp_iload rfl rfl ?_
            refine wp_call (k := 240) (ρ2 := 0) (L2 := [vr 49, vi 8, vi x7]) rfl rfl rfl (Nat.le_of_ble_eq_true rfl) (Nat.le_of_ble_eq_true rfl) (Nat.le_of_ble_eq_true rfl) (rcv_V rfl (congrArg Prod.fst (kf_49 X.1))) rfl ?_
            refine wp_iload rfl rfl ?_
            refine wp_ifltF (tn := 19) rfl rfl (by decide) ?_
            refine wp_iload rfl rfl ?_
            refine wp_iconst rfl ?_
            refine wp_icgeF (tn := 19) rfl rfl (by decide) ?_
            refine wp_iload rfl rfl ?_
            refine wp_ifltF (tn := 19) rfl rfl c5 ?_
            refine wp_iload rfl rfl ?_
            refine wp_iconst rfl ?_
            refine wp_icltF (tn := 21) rfl rfl c7 ?_
            refine wp_sipush rfl ?_
            refine wp_lret rfl rfl ?_
            show Wp X _ 246 60 [vr 49, vr 37, vi x2, vl (w64 (x3 + 0)), vu, vl x5, vu, vi x7, vi 8] [vl 0, vl x5] _ _
            refine wp_ladd rfl ?_
            refine wp_lstore (L2 := [vr 49, vr 37, vi x2, vl (w64 (x3 + 0)), vu, vl (w64 (x5 + 0)), vu, vi x7, vi 8]) rfl (Nat.le_of_ble_eq_true rfl) rfl ?_
            have g8 := H.1
            replace H := H.2
            refine wp_iincR (L2 := [vr 49, vr 37, vi x2, vl (w64 (x3 + 0)), vu, vl (w64 (x5 + 0)), vu, vi (x7 + 1), vi 8]) rfl rfl g8 rfl ?_
            refine wp_goto (tn := 14) rfl rfl ?_
            exact H
      · replace H := H.2 c4
        refine wp_iload rfl rfl ?_
        refine wp_aload rfl rfl ?_
        refine wp_getI (j := 6) rfl (congrArg Prod.fst (kf_37 X.1)) rfl ?_
        refine wp_icge (tn := 16) rfl rfl (fun c9 => ?_) (fun c9 => ?_)
        · replace H := H.1 c9
          refine wp_iconst rfl ?_
          refine wp_zret rfl rfl (by decide) ?_
          show Wp X _ 192 5 [vr 37, vi (x2 - x7)] [vi 0] _ _
          refine wp_ifeqT (tn := 17) rfl rfl (by decide) ?_
          refine wp_iconst rfl ?_
          refine wp_iret rfl rfl ?_
          show Wp X _ 246 37 [vr 49, vr 37, vi x2, vl x3, vu, vl x5, vu, vi x7, zx8] [vi 8] _ _
          refine wp_istore (L2 := [vr 49, vr 37, vi x2, vl x3, vu, vl x5, vu, vi x7, vi 8]) rfl (Nat.le_of_ble_eq_true rfl) rfl ?_
          refine wp_lload rfl rfl ?_
          refine wp_aload rfl rfl ?_
          refine wp_iload rfl rfl ?_
          refine wp_iload rfl rfl ?_
          refine wp_call (k := 239) (ρ2 := 0) (L2 := [vr 49, vi 8, vi x7]) rfl rfl rfl (Nat.le_of_ble_eq_true rfl) (Nat.le_of_ble_eq_true rfl) (Nat.le_of_ble_eq_true rfl) (rcv_V rfl (congrArg Prod.fst (kf_49 X.1))) rfl ?_
          refine wp_iload rfl rfl ?_
          refine wp_ifltF (tn := 19) rfl rfl (by decide) ?_
          refine wp_iload rfl rfl ?_
          refine wp_iconst rfl ?_
          refine wp_icgeF (tn := 19) rfl rfl (by decide) ?_
          refine wp_iload rfl rfl ?_
          refine wp_iflt (tn := 19) rfl rfl (fun c10 => ?_) (fun c10 => ?_)
          · replace H := H.1 c10
            refine wp_sipush rfl ?_
            refine wp_lret rfl rfl ?_
            show Wp X _ 246 48 [vr 49, vr 37, vi x2, vl x3, vu, vl x5, vu, vi x7, vi 8] [vl 0, vl x3] _ _
            refine wp_ladd rfl ?_
            refine wp_lstore (L2 := [vr 49, vr 37, vi x2, vl (w64 (x3 + 0)), vu, vl x5, vu, vi x7, vi 8]) rfl (Nat.le_of_ble_eq_true rfl) rfl ?_
            refine wp_lload rfl rfl ?_
            refine wp_aload rfl rfl ?_
            refine wp_iload rfl rfl ?_
            refine wp_iload rfl rfl ?_
            refine wp_call (k := 240) (ρ2 := 0) (L2 := [vr 49, vi 8, vi x7]) rfl rfl rfl (Nat.le_of_ble_eq_true rfl) (Nat.le_of_ble_eq_true rfl) (Nat.le_of_ble_eq_true rfl) (rcv_V rfl (congrArg Prod.fst (kf_49 X.1))) rfl ?_
            refine wp_iload rfl rfl ?_
            refine wp_ifltF (tn := 19) rfl rfl (by decide) ?_
            refine wp_iload rfl rfl ?_
            refine wp_iconst rfl ?_
            refine wp_icgeF (tn := 19) rfl rfl (by decide) ?_
            refine wp_iload rfl rfl ?_
            refine wp_ifltT (tn := 19) rfl rfl c10 ?_
            refine wp_sipush rfl ?_
            refine wp_lret rfl rfl ?_
            show Wp X _ 246 60 [vr 49, vr 37, vi x2, vl (w64 (x3 + 0)), vu, vl x5, vu, vi x7, vi 8] [vl 0, vl x5] _ _
            refine wp_ladd rfl ?_
            refine wp_lstore (L2 := [vr 49, vr 37, vi x2, vl (w64 (x3 + 0)), vu, vl (w64 (x5 + 0)), vu, vi x7, vi 8]) rfl (Nat.le_of_ble_eq_true rfl) rfl ?_
            have g11 := H.1
            replace H := H.2
            refine wp_iincR (L2 := [vr 49, vr 37, vi x2, vl (w64 (x3 + 0)), vu, vl (w64 (x5 + 0)), vu, vi (x7 + 1), vi 8]) rfl rfl g11 rfl ?_
            refine wp_goto (tn := 14) rfl rfl ?_
            exact H
          · replace H := H.2 c10
            refine wp_iload rfl rfl ?_
            refine wp_iconst rfl ?_
            refine wp_iclt (tn := 21) rfl rfl (fun c12 => ?_) (fun c12 => ?_)
            · replace H := H.1 c12
              refine wp_aload rfl rfl ?_
              refine wp_getR (r := 49) rfl (congrArg Prod.fst (kf_49 X.1)) rfl ?_
              refine wp_iload rfl rfl ?_
              refine wp_laload rfl (kf_50 X.1) (by decide) ?_
              refine wp_aload rfl rfl ?_
              refine wp_getR (r := 51) rfl (congrArg Prod.fst (kf_49 X.1)) rfl ?_
              refine wp_iload rfl rfl ?_
              refine wp_laload rfl (kf_52 X.1) ⟨c10, c12⟩ ?_
              refine wp_land rfl ?_
              refine wp_lret rfl rfl ?_
              show Wp X _ 246 48 [vr 49, vr 37, vi x2, vl x3, vu, vl x5, vu, vi x7, vi 8] [vl ((i64 (h 50 8) &&& i64 (h 52 x7)).toInt), vl x3] _ _
              refine wp_ladd rfl ?_
              refine wp_lstore (L2 := [vr 49, vr 37, vi x2, vl (w64 (x3 + ((i64 (h 50 8) &&& i64 (h 52 x7)).toInt))), vu, vl x5, vu, vi x7, vi 8]) rfl (Nat.le_of_ble_eq_true rfl) rfl ?_
              refine wp_lload rfl rfl ?_
              refine wp_aload rfl rfl ?_
              refine wp_iload rfl rfl ?_
              refine wp_iload rfl rfl ?_
              refine wp_call (k := 240) (ρ2 := 0) (L2 := [vr 49, vi 8, vi x7]) rfl rfl rfl (Nat.le_of_ble_eq_true rfl) (Nat.le_of_ble_eq_true rfl) (Nat.le_of_ble_eq_true rfl) (rcv_V rfl (congrArg Prod.fst (kf_49 X.1))) rfl ?_
              refine wp_iload rfl rfl ?_
              refine wp_ifltF (tn := 19) rfl rfl (by decide) ?_
              refine wp_iload rfl rfl ?_
              refine wp_iconst rfl ?_
              refine wp_icgeF (tn := 19) rfl rfl (by decide) ?_
              refine wp_iload rfl rfl ?_
              refine wp_ifltF (tn := 19) rfl rfl c10 ?_
              refine wp_iload rfl rfl ?_
              refine wp_iconst rfl ?_
              refine wp_icltT (tn := 21) rfl rfl c12 ?_
              refine wp_aload rfl rfl ?_
              refine wp_getR (r := 50) rfl (congrArg Prod.fst (kf_49 X.1)) rfl ?_
              refine wp_iload rfl rfl ?_
              refine wp_laload rfl (kf_51 X.1) (by decide) ?_
              refine wp_aload rfl rfl ?_
              refine wp_getR (r := 51) rfl (congrArg Prod.fst (kf_49 X.1)) rfl ?_
              refine wp_iload rfl rfl ?_
              refine wp_laload rfl (kf_52 X.1) ⟨c10, c12⟩ ?_
              refine wp_land rfl ?_
              refine wp_lret rfl rfl ?_
              show Wp X _ 246 60 [vr 49, vr 37, vi x2, vl (w64 (x3 + ((i64 (h 50 8) &&& i64 (h 52 x7)).toInt))), vu, vl x5, vu, vi x7, vi 8] [vl ((i64 (h 51 8) &&& i64 (h 52 x7)).toInt), vl x5] _ _
              refine wp_ladd rfl ?_
              refine wp_lstore (L2 := [vr 49, vr 37, vi x2, vl (w64 (x3 + ((i64 (h 50 8) &&& i64 (h 52 x7)).toInt))), vu, vl (w64 (x5 + ((i64 (h 51 8) &&& i64 (h 52 x7)).toInt))), vu, vi x7, vi 8]) rfl (Nat.le_of_ble_eq_true rfl) rfl ?_
              refine wp_iincR (L2 := [vr 49, vr 37, vi x2, vl (w64 (x3 + ((i64 (h 50 8) &&& i64 (h 52 x7)).toInt))), vu, vl (w64 (x5 + ((i64 (h 51 8) &&& i64 (h 52 x7)).toInt))), vu, vi (x7 + 1), vi 8]) rfl rfl (by clear H; unfold R32; omega) rfl ?_
              refine wp_goto (tn := 14) rfl rfl ?_
              exact H
            · replace H := H.2 c12
              refine wp_sipush rfl ?_
              refine wp_lret rfl rfl ?_
              show Wp X _ 246 48 [vr 49, vr 37, vi x2, vl x3, vu, vl x5, vu, vi x7, vi 8] [vl 0, vl x3] _ _
              refine wp_ladd rfl ?_
              refine wp_lstore (L2 := [vr 49, vr 37, vi x2, vl (w64 (x3 + 0)), vu, vl x5, vu, vi x7, vi 8]) rfl (Nat.le_of_ble_eq_true rfl) rfl ?_
              refine wp_lload rfl rfl ?_
              refine wp_aload rfl rfl ?_
              refine wp_iload rfl rfl ?_
              refine wp_iload rfl rfl ?_
              refine wp_call (k := 240) (ρ2 := 0) (L2 := [vr 49, vi 8, vi x7]) rfl rfl rfl (Nat.le_of_ble_eq_true rfl) (Nat.le_of_ble_eq_true rfl) (Nat.le_of_ble_eq_true rfl) (rcv_V rfl (congrArg Prod.fst (kf_49 X.1))) rfl ?_
              refine wp_iload rfl rfl ?_
              refine wp_ifltF (tn := 19) rfl rfl (by decide) ?_
              refine wp_iload rfl rfl ?_
              refine wp_iconst rfl ?_
              refine wp_icgeF (tn := 19) rfl rfl (by decide) ?_
              refine wp_iload rfl rfl ?_
              refine wp_ifltF (tn := 19) rfl rfl c10 ?_
              refine wp_iload rfl rfl ?_
              refine wp_iconst rfl ?_
              refine wp_icltF (tn := 21) rfl rfl c12 ?_
              refine wp_sipush rfl ?_
              refine wp_lret rfl rfl ?_
              show Wp X _ 246 60 [vr 49, vr 37, vi x2, vl (w64 (x3 + 0)), vu, vl x5, vu, vi x7, vi 8] [vl 0, vl x5] _ _
              refine wp_ladd rfl ?_
              refine wp_lstore (L2 := [vr 49, vr 37, vi x2, vl (w64 (x3 + 0)), vu, vl (w64 (x5 + 0)), vu, vi x7, vi 8]) rfl (Nat.le_of_ble_eq_true rfl) rfl ?_
              have g13 := H.1
              replace H := H.2
              refine wp_iincR (L2 := [vr 49, vr 37, vi x2, vl (w64 (x3 + 0)), vu, vl (w64 (x5 + 0)), vu, vi (x7 + 1), vi 8]) rfl rfl g13 rfl ?_
              refine wp_goto (tn := 14) rfl rfl ?_
              exact H
        · replace H := H.2 c9
          refine wp_iconst rfl ?_
          refine wp_goto (tn := 17) rfl rfl ?_
          refine wp_zret rfl rfl (by decide) ?_
          show Wp X _ 192 5 [vr 37, vi (x2 - x7)] [vi 1] _ _
          refine wp_ifeqF (tn := 17) rfl rfl (by decide) ?_
          refine wp_aload rfl rfl ?_
          refine wp_getR (r := 39) rfl (congrArg Prod.fst (kf_37 X.1)) rfl ?_
          refine wp_iload rfl rfl ?_
          have g14 := H.1
          replace H := H.2
          refine wp_iaload rfl (kf_40 X.1) g14 ?_
          refine wp_goto (tn := 19) rfl rfl ?_
          refine wp_iret rfl rfl ?_
          show Wp X _ 246 37 [vr 49, vr 37, vi x2, vl x3, vu, vl x5, vu, vi x7, zx8] [vi (h 40 (x2 - x7))] _ _
          refine wp_istore (L2 := [vr 49, vr 37, vi x2, vl x3, vu, vl x5, vu, vi x7, vi (h 40 (x2 - x7))]) rfl (Nat.le_of_ble_eq_true rfl) rfl ?_
          refine wp_lload rfl rfl ?_
          refine wp_aload rfl rfl ?_
          refine wp_iload rfl rfl ?_
          refine wp_iload rfl rfl ?_
          refine wp_call (k := 239) (ρ2 := 0) (L2 := [vr 49, vi (h 40 (x2 - x7)), vi x7]) rfl rfl rfl (Nat.le_of_ble_eq_true rfl) (Nat.le_of_ble_eq_true rfl) (Nat.le_of_ble_eq_true rfl) (rcv_V rfl (congrArg Prod.fst (kf_49 X.1))) rfl ?_
          refine wp_iload rfl rfl ?_
          refine wp_iflt (tn := 19) rfl rfl (fun c15 => ?_) (fun c15 => ?_)
          · replace H := H.1 c15
            refine wp_sipush rfl ?_
            refine wp_lret rfl rfl ?_
            show Wp X _ 246 48 [vr 49, vr 37, vi x2, vl x3, vu, vl x5, vu, vi x7, vi (h 40 (x2 - x7))] [vl 0, vl x3] _ _
            refine wp_ladd rfl ?_
            refine wp_lstore (L2 := [vr 49, vr 37, vi x2, vl (w64 (x3 + 0)), vu, vl x5, vu, vi x7, vi (h 40 (x2 - x7))]) rfl (Nat.le_of_ble_eq_true rfl) rfl ?_
            refine wp_lload rfl rfl ?_
            refine wp_aload rfl rfl ?_
            refine wp_iload rfl rfl ?_
            refine wp_iload rfl rfl ?_
            refine wp_call (k := 240) (ρ2 := 0) (L2 := [vr 49, vi (h 40 (x2 - x7)), vi x7]) rfl rfl rfl (Nat.le_of_ble_eq_true rfl) (Nat.le_of_ble_eq_true rfl) (Nat.le_of_ble_eq_true rfl) (rcv_V rfl (congrArg Prod.fst (kf_49 X.1))) rfl ?_
            refine wp_iload rfl rfl ?_
            refine wp_ifltT (tn := 19) rfl rfl c15 ?_
            refine wp_sipush rfl ?_
            refine wp_lret rfl rfl ?_
            show Wp X _ 246 60 [vr 49, vr 37, vi x2, vl (w64 (x3 + 0)), vu, vl x5, vu, vi x7, vi (h 40 (x2 - x7))] [vl 0, vl x5] _ _
            refine wp_ladd rfl ?_
            refine wp_lstore (L2 := [vr 49, vr 37, vi x2, vl (w64 (x3 + 0)), vu, vl (w64 (x5 + 0)), vu, vi x7, vi (h 40 (x2 - x7))]) rfl (Nat.le_of_ble_eq_true rfl) rfl ?_
            have g16 := H.1
            replace H := H.2
            refine wp_iincR (L2 := [vr 49, vr 37, vi x2, vl (w64 (x3 + 0)), vu, vl (w64 (x5 + 0)), vu, vi (x7 + 1), vi (h 40 (x2 - x7))]) rfl rfl g16 rfl ?_
            refine wp_goto (tn := 14) rfl rfl ?_
            exact H
          · replace H := H.2 c15
            refine wp_iload rfl rfl ?_
            refine wp_iconst rfl ?_
            refine wp_icge (tn := 19) rfl rfl (fun c17 => ?_) (fun c17 => ?_)
            · replace H := H.1 c17
              refine wp_sipush rfl ?_
              refine wp_lret rfl rfl ?_
              show Wp X _ 246 48 [vr 49, vr 37, vi x2, vl x3, vu, vl x5, vu, vi x7, vi (h 40 (x2 - x7))] [vl 0, vl x3] _ _
              refine wp_ladd rfl ?_
              refine wp_lstore (L2 := [vr 49, vr 37, vi x2, vl (w64 (x3 + 0)), vu, vl x5, vu, vi x7, vi (h 40 (x2 - x7))]) rfl (Nat.le_of_ble_eq_true rfl) rfl ?_
              refine wp_lload rfl rfl ?_
              refine wp_aload rfl rfl ?_
              refine wp_iload rfl rfl ?_
              refine wp_iload rfl rfl ?_
              refine wp_call (k := 240) (ρ2 := 0) (L2 := [vr 49, vi (h 40 (x2 - x7)), vi x7]) rfl rfl rfl (Nat.le_of_ble_eq_true rfl) (Nat.le_of_ble_eq_true rfl) (Nat.le_of_ble_eq_true rfl) (rcv_V rfl (congrArg Prod.fst (kf_49 X.1))) rfl ?_
              refine wp_iload rfl rfl ?_
              refine wp_ifltF (tn := 19) rfl rfl c15 ?_
              refine wp_iload rfl rfl ?_
              refine wp_iconst rfl ?_
              refine wp_icgeT (tn := 19) rfl rfl c17 ?_
              refine wp_sipush rfl ?_
              refine wp_lret rfl rfl ?_
              show Wp X _ 246 60 [vr 49, vr 37, vi x2, vl (w64 (x3 + 0)), vu, vl x5, vu, vi x7, vi (h 40 (x2 - x7))] [vl 0, vl x5] _ _
              refine wp_ladd rfl ?_
              refine wp_lstore (L2 := [vr 49, vr 37, vi x2, vl (w64 (x3 + 0)), vu, vl (w64 (x5 + 0)), vu, vi x7, vi (h 40 (x2 - x7))]) rfl (Nat.le_of_ble_eq_true rfl) rfl ?_
              have g18 := H.1
              replace H := H.2
              refine wp_iincR (L2 := [vr 49, vr 37, vi x2, vl (w64 (x3 + 0)), vu, vl (w64 (x5 + 0)), vu, vi (x7 + 1), vi (h 40 (x2 - x7))]) rfl rfl g18 rfl ?_
              refine wp_goto (tn := 14) rfl rfl ?_
              exact H
            · replace H := H.2 c17
              refine wp_iload rfl rfl ?_
              refine wp_iflt (tn := 19) rfl rfl (fun c19 => ?_) (fun c19 => ?_)
              · replace H := H.1 c19
                refine wp_sipush rfl ?_
                refine wp_lret rfl rfl ?_
                show Wp X _ 246 48 [vr 49, vr 37, vi x2, vl x3, vu, vl x5, vu, vi x7, vi (h 40 (x2 - x7))] [vl 0, vl x3] _ _
                refine wp_ladd rfl ?_
                refine wp_lstore (L2 := [vr 49, vr 37, vi x2, vl (w64 (x3 + 0)), vu, vl x5, vu, vi x7, vi (h 40 (x2 - x7))]) rfl (Nat.le_of_ble_eq_true rfl) rfl ?_
                refine wp_lload rfl rfl ?_
                refine wp_aload rfl rfl ?_
                refine wp_iload rfl rfl ?_
                refine wp_iload rfl rfl ?_
                refine wp_call (k := 240) (ρ2 := 0) (L2 := [vr 49, vi (h 40 (x2 - x7)), vi x7]) rfl rfl rfl (Nat.le_of_ble_eq_true rfl) (Nat.le_of_ble_eq_true rfl) (Nat.le_of_ble_eq_true rfl) (rcv_V rfl (congrArg Prod.fst (kf_49 X.1))) rfl ?_
                refine wp_iload rfl rfl ?_
                refine wp_ifltF (tn := 19) rfl rfl c15 ?_
                refine wp_iload rfl rfl ?_
                refine wp_iconst rfl ?_
                refine wp_icgeF (tn := 19) rfl rfl c17 ?_
                refine wp_iload rfl rfl ?_
                refine wp_ifltT (tn := 19) rfl rfl c19 ?_
                refine wp_sipush rfl ?_
                refine wp_lret rfl rfl ?_
                show Wp X _ 246 60 [vr 49, vr 37, vi x2, vl (w64 (x3 + 0)), vu, vl x5, vu, vi x7, vi (h 40 (x2 - x7))] [vl 0, vl x5] _ _
                refine wp_ladd rfl ?_
                refine wp_lstore (L2 := [vr 49, vr 37, vi x2, vl (w64 (x3 + 0)), vu, vl (w64 (x5 + 0)), vu, vi x7, vi (h 40 (x2 - x7))]) rfl (Nat.le_of_ble_eq_true rfl) rfl ?_
                have g20 := H.1
                replace H := H.2
                refine wp_iincR (L2 := [vr 49, vr 37, vi x2, vl (w64 (x3 + 0)), vu, vl (w64 (x5 + 0)), vu, vi (x7 + 1), vi (h 40 (x2 - x7))]) rfl rfl g20 rfl ?_
                refine wp_goto (tn := 14) rfl rfl ?_
                exact H
              · replace H := H.2 c19
                refine wp_iload rfl rfl ?_
                refine wp_iconst rfl ?_
                refine wp_iclt (tn := 21) rfl rfl (fun c21 => ?_) (fun c21 => ?_)
                · replace H := H.1 c21
                  refine wp_aload rfl rfl ?_
                  refine wp_getR (r := 49) rfl (congrArg Prod.fst (kf_49 X.1)) rfl ?_
                  refine wp_iload rfl rfl ?_
                  refine wp_laload rfl (kf_50 X.1) ⟨c15, c17⟩ ?_
                  refine wp_aload rfl rfl ?_
                  refine wp_getR (r := 51) rfl (congrArg Prod.fst (kf_49 X.1)) rfl ?_
                  refine wp_iload rfl rfl ?_
                  refine wp_laload rfl (kf_52 X.1) ⟨c19, c21⟩ ?_
                  refine wp_land rfl ?_
                  refine wp_lret rfl rfl ?_
                  show Wp X _ 246 48 [vr 49, vr 37, vi x2, vl x3, vu, vl x5, vu, vi x7, vi (h 40 (x2 - x7))] [vl ((i64 (h 50 (h 40 (x2 - x7))) &&& i64 (h 52 x7)).toInt), vl x3] _ _
                  refine wp_ladd rfl ?_
                  refine wp_lstore (L2 := [vr 49, vr 37, vi x2, vl (w64 (x3 + ((i64 (h 50 (h 40 (x2 - x7))) &&& i64 (h 52 x7)).toInt))), vu, vl x5, vu, vi x7, vi (h 40 (x2 - x7))]) rfl (Nat.le_of_ble_eq_true rfl) rfl ?_
                  refine wp_lload rfl rfl ?_
                  refine wp_aload rfl rfl ?_
                  refine wp_iload rfl rfl ?_
                  refine wp_iload rfl rfl ?_
                  refine wp_call (k := 240) (ρ2 := 0) (L2 := [vr 49, vi (h 40 (x2 - x7)), vi x7]) rfl rfl rfl (Nat.le_of_ble_eq_true rfl) (Nat.le_of_ble_eq_true rfl) (Nat.le_of_ble_eq_true rfl) (rcv_V rfl (congrArg Prod.fst (kf_49 X.1))) rfl ?_
                  refine wp_iload rfl rfl ?_
                  refine wp_ifltF (tn := 19) rfl rfl c15 ?_
                  refine wp_iload rfl rfl ?_
                  refine wp_iconst rfl ?_
                  refine wp_icgeF (tn := 19) rfl rfl c17 ?_
                  refine wp_iload rfl rfl ?_
                  refine wp_ifltF (tn := 19) rfl rfl c19 ?_
                  refine wp_iload rfl rfl ?_
                  refine wp_iconst rfl ?_
                  refine wp_icltT (tn := 21) rfl rfl c21 ?_
                  refine wp_aload rfl rfl ?_
                  refine wp_getR (r := 50) rfl (congrArg Prod.fst (kf_49 X.1)) rfl ?_
                  refine wp_iload rfl rfl ?_
                  refine wp_laload rfl (kf_51 X.1) ⟨c15, c17⟩ ?_
                  refine wp_aload rfl rfl ?_
                  refine wp_getR (r := 51) rfl (congrArg Prod.fst (kf_49 X.1)) rfl ?_
                  refine wp_iload rfl rfl ?_
                  refine wp_laload rfl (kf_52 X.1) ⟨c19, c21⟩ ?_
                  refine wp_land rfl ?_
                  refine wp_lret rfl rfl ?_
                  show Wp X _ 246 60 [vr 49, vr 37, vi x2, vl (w64 (x3 + ((i64 (h 50 (h 40 (x2 - x7))) &&& i64 (h 52 x7)).toInt))), vu, vl x5, vu, vi x7, vi (h 40 (x2 - x7))] [vl ((i64 (h 51 (h 40 (x2 - x7))) &&& i64 (h 52 x7)).toInt), vl x5] _ _
                  refine wp_ladd rfl ?_
                  refine wp_lstore (L2 := [vr 49, vr 37, vi x2, vl (w64 (x3 + ((i64 (h 50 (h 40 (x2 - x7))) &&& i64 (h 52 x7)).toInt))), vu, vl (w64 (x5 + ((i64 (h 51 (h 40 (x2 - x7))) &&& i64 (h 52 x7)).toInt))), vu, vi x7, vi (h 40 (x2 - x7))]) rfl (Nat.le_of_ble_eq_true rfl) rfl ?_
                  refine wp_iincR (L2 := [vr 49, vr 37, vi x2, vl (w64 (x3 + ((i64 (h 50 (h 40 (x2 - x7))) &&& i64 (h 52 x7)).toInt))), vu, vl (w64 (x5 + ((i64 (h 51 (h 40 (x2 - x7))) &&& i64 (h 52 x7)).toInt))), vu, vi (x7 + 1), vi (h 40 (x2 - x7))]) rfl rfl (by clear H; unfold R32; omega) rfl ?_
                  refine wp_goto (tn := 14) rfl rfl ?_
                  exact H
                · replace H := H.2 c21
                  refine wp_sipush rfl ?_
                  refine wp_lret rfl rfl ?_
                  show Wp X _ 246 48 [vr 49, vr 37, vi x2, vl x3, vu, vl x5, vu, vi x7, vi (h 40 (x2 - x7))] [vl 0, vl x3] _ _
                  refine wp_ladd rfl ?_
                  refine wp_lstore (L2 := [vr 49, vr 37, vi x2, vl (w64 (x3 + 0)), vu, vl x5, vu, vi x7, vi (h 40 (x2 - x7))]) rfl (Nat.le_of_ble_eq_true rfl) rfl ?_
                  refine wp_lload rfl rfl ?_
                  refine wp_aload rfl rfl ?_
                  refine wp_iload rfl rfl ?_
                  refine wp_iload rfl rfl ?_
                  refine wp_call (k := 240) (ρ2 := 0) (L2 := [vr 49, vi (h 40 (x2 - x7)), vi x7]) rfl rfl rfl (Nat.le_of_ble_eq_true rfl) (Nat.le_of_ble_eq_true rfl) (Nat.le_of_ble_eq_true rfl) (rcv_V rfl (congrArg Prod.fst (kf_49 X.1))) rfl ?_
                  refine wp_iload rfl rfl ?_
                  refine wp_ifltF (tn := 19) rfl rfl c15 ?_
                  refine wp_iload rfl rfl ?_
                  refine wp_iconst rfl ?_
                  refine wp_icgeF (tn := 19) rfl rfl c17 ?_
                  refine wp_iload rfl rfl ?_
                  refine wp_ifltF (tn := 19) rfl rfl c19 ?_
                  refine wp_iload rfl rfl ?_
                  refine wp_iconst rfl ?_
                  refine wp_icltF (tn := 21) rfl rfl c21 ?_
                  refine wp_sipush rfl ?_
                  refine wp_lret rfl rfl ?_
                  show Wp X _ 246 60 [vr 49, vr 37, vi x2, vl (w64 (x3 + 0)), vu, vl x5, vu, vi x7, vi (h 40 (x2 - x7))] [vl 0, vl x5] _ _
                  refine wp_ladd rfl ?_
                  refine wp_lstore (L2 := [vr 49, vr 37, vi x2, vl (w64 (x3 + 0)), vu, vl (w64 (x5 + 0)), vu, vi x7, vi (h 40 (x2 - x7))]) rfl (Nat.le_of_ble_eq_true rfl) rfl ?_
                  have g22 := H.1
                  replace H := H.2
                  refine wp_iincR (L2 := [vr 49, vr 37, vi x2, vl (w64 (x3 + 0)), vu, vl (w64 (x5 + 0)), vu, vi (x7 + 1), vi (h 40 (x2 - x7))]) rfl rfl g22 rfl ?_
                  refine wp_goto (tn := 14) rfl rfl ?_
                  exact H
/-- ZoneRules.reachedAt(L$Row;I)J, from 0 -/
theorem S246_49_62_0 {X : Nat × (Int → Int)} {h : HP} {Q : bQ} (x2 : Int) (H : Wp X 2 246 14 [vr 49, vr 62, vi x2, vl (h 49 3), vu, vl (h 49 3), vu, vi 0, vu] [] h Q) : Wp X 2 246 0 [vr 49, vr 62, vi x2, vu, vu, vu, vu, vu, vu] [] h Q := by
  refine wp_aload rfl rfl ?_
  refine wp_getL (j := 3) rfl (congrArg Prod.fst (kf_49 X.1)) rfl ?_
  refine wp_lstore (L2 := [vr 49, vr 62, vi x2, vl (h 49 3), vu, vu, vu, vu, vu]) rfl (Nat.le_of_ble_eq_true rfl) rfl ?_
  refine wp_aload rfl rfl ?_
  refine wp_getL (j := 3) rfl (congrArg Prod.fst (kf_49 X.1)) rfl ?_
  refine wp_lstore (L2 := [vr 49, vr 62, vi x2, vl (h 49 3), vu, vl (h 49 3), vu, vu, vu]) rfl (Nat.le_of_ble_eq_true rfl) rfl ?_
  refine wp_iconst rfl ?_
  refine wp_istore (L2 := [vr 49, vr 62, vi x2, vl (h 49 3), vu, vl (h 49 3), vu, vi 0, vu]) rfl (Nat.le_of_ble_eq_true rfl) rfl ?_
  exact H
/-- ZoneRules.reachedAt(L$Row;I)J, from 14 -/
theorem S246_49_62_14 {X : Nat × (Int → Int)} {h : HP} {Q : bQ} (x2 : Int) (x3 : Int) (x5 : Int) (x7 : Int) (zx8 : aV) (H : (((h 49 4) ≤ x7 → Q (some (vl ((i64 ((i64 x3 ||| i64 x5).toInt) &&& i64 (-9187201950435737472)).toInt))) h) ∧ (x7 < (h 49 4) → ((x2 < x7 → Q (some (vl ((i64 ((i64 x3 ||| i64 x5).toInt) &&& i64 (-9187201950435737472)).toInt))) h) ∧ (x7 ≤ x2 → ((R32 (x2 - x7)) ∧ (((x2 - x7) < 0 → ((x7 < 0 → ((R32 (x7 + 1)) ∧ Wp X 2 246 14 [vr 49, vr 62, vi x2, vl (w64 (x3 + 0)), vu, vl (w64 (x5 + 0)), vu, vi (x7 + 1), vi 8] [] h Q)) ∧ (0 ≤ x7 → ((x7 < 5 → Wp X 2 246 14 [vr 49, vr 62, vi x2, vl (w64 (x3 + ((i64 (h 50 8) &&& i64 (h 52 x7)).toInt))), vu, vl (w64 (x5 + ((i64 (h 51 8) &&& i64 (h 52 x7)).toInt))), vu, vi (x7 + 1), vi 8] [] h Q) ∧ (5 ≤ x7 → ((R32 (x7 + 1)) ∧ Wp X 2 246 14 [vr 49, vr 62, vi x2, vl (w64 (x3 + 0)), vu, vl (w64 (x5 + 0)), vu, vi (x7 + 1), vi 8] [] h Q)))))) ∧ (0 ≤ (x2 - x7) → (((h 62 6) ≤ (x2 - x7) → ((x7 < 0 → ((R32 (x7 + 1)) ∧ Wp X 2 246 14 [vr 49, vr 62, vi x2, vl (w64 (x3 + 0)), vu, vl (w64 (x5 + 0)), vu, vi (x7 + 1), vi 8] [] h Q)) ∧ (0 ≤ x7 → ((x7 < 5 → Wp X 2 246 14 [vr 49, vr 62, vi x2, vl (w64 (x3 + ((i64 (h 50 8) &&& i64 (h 52 x7)).toInt))), vu, vl (w64 (x5 + ((i64 (h 51 8) &&& i64 (h 52 x7)).toInt))), vu, vi (x7 + 1), vi 8] [] h Q) ∧ (5 ≤ x7 → ((R32 (x7 + 1)) ∧ Wp X 2 246 14 [vr 49, vr 62, vi x2, vl (w64 (x3 + 0)), vu, vl (w64 (x5 + 0)), vu, vi (x7 + 1), vi 8] [] h Q)))))) ∧ ((x2 - x7) < (h 62 6) → ((0 ≤ (x2 - x7) ∧ (x2 - x7) < 20) ∧ (((h 65 (x2 - x7)) < 0 → ((R32 (x7 + 1)) ∧ Wp X 2 246 14 [vr 49, vr 62, vi x2, vl (w64 (x3 + 0)), vu, vl (w64 (x5 + 0)), vu, vi (x7 + 1), vi (h 65 (x2 - x7))] [] h Q)) ∧ (0 ≤ (h 65 (x2 - x7)) → ((9 ≤ (h 65 (x2 - x7)) → ((R32 (x7 + 1)) ∧ Wp X 2 246 14 [vr 49, vr 62, vi x2, vl (w64 (x3 + 0)), vu, vl (w64 (x5 + 0)), vu, vi (x7 + 1), vi (h 65 (x2 - x7))] [] h Q)) ∧ ((h 65 (x2 - x7)) < 9 → ((x7 < 0 → ((R32 (x7 + 1)) ∧ Wp X 2 246 14 [vr 49, vr 62, vi x2, vl (w64 (x3 + 0)), vu, vl (w64 (x5 + 0)), vu, vi (x7 + 1), vi (h 65 (x2 - x7))] [] h Q)) ∧ (0 ≤ x7 → ((x7 < 5 → Wp X 2 246 14 [vr 49, vr 62, vi x2, vl (w64 (x3 + ((i64 (h 50 (h 65 (x2 - x7))) &&& i64 (h 52 x7)).toInt))), vu, vl (w64 (x5 + ((i64 (h 51 (h 65 (x2 - x7))) &&& i64 (h 52 x7)).toInt))), vu, vi (x7 + 1), vi (h 65 (x2 - x7))] [] h Q) ∧ (5 ≤ x7 → ((R32 (x7 + 1)) ∧ Wp X 2 246 14 [vr 49, vr 62, vi x2, vl (w64 (x3 + 0)), vu, vl (w64 (x5 + 0)), vu, vi (x7 + 1), vi (h 65 (x2 - x7))] [] h Q)))))))))))))))))))) : Wp X 2 246 14 [vr 49, vr 62, vi x2, vl x3, vu, vl x5, vu, vi x7, zx8] [] h Q := by
  refine wp_iload rfl rfl ?_
  refine wp_aload rfl rfl ?_
  refine wp_getI (j := 4) rfl (congrArg Prod.fst (kf_49 X.1)) rfl ?_
  refine wp_icge (tn := 69) rfl rfl (fun c1 => ?_) (fun c1 => ?_)
  · replace H := H.1 c1
    refine wp_lload rfl rfl ?_
    refine wp_lload rfl rfl ?_
    refine wp_lor rfl ?_
    refine wp_sipush rfl ?_
    refine wp_land rfl ?_
    exact wp_lret rfl rfl H
  · replace H := H.2 c1
    refine wp_iload rfl rfl ?_
    refine wp_iload rfl rfl ?_
    refine wp_icgt (tn := 69) rfl rfl (fun c2 => ?_) (fun c2 => ?_)
    · replace H := H.1 c2
      refine wp_lload rfl rfl ?_
      refine wp_lload rfl rfl ?_
      refine wp_lor rfl ?_
      refine wp_sipush rfl ?_
      refine wp_land rfl ?_
      exact wp_lret rfl rfl H
    · replace H := H.2 c2
      refine wp_aload rfl rfl ?_
      refine wp_iload rfl rfl ?_
      refine wp_iload rfl rfl ?_
      refine wp_isub rfl ?_
      have g3 := H.1
      replace H := H.2
      refine Wp.topI (y := (x2 - x7)) (w32_I g3) ?_
      refine wp_call (k := 192) (ρ2 := 1) (L2 := [vr 62, vi (x2 - x7)]) rfl rfl rfl (Nat.le_of_ble_eq_true rfl) (Nat.le_of_ble_eq_true rfl) (Nat.le_of_ble_eq_true rfl) (rcv_V rfl (congrArg Prod.fst (kf_62 X.1))) rfl ?_
      refine wp_aload rfl rfl ?_
      refine wp_iload rfl rfl ?_
      refine wp_call (k := 189) (ρ2 := 0) (L2 := [vr 62, vi (x2 - x7)]) rfl rfl rfl (Nat.le_of_ble_eq_true rfl) (Nat.le_of_ble_eq_true rfl) (Nat.le_of_ble_eq_true rfl) (rcv_V rfl (congrArg Prod.fst (kf_62 X.1))) rfl ?_
      refine wp_iload rfl rfl ?_
      refine wp_iflt (tn := 16) rfl rfl (fun c4 => ?_) (fun c4 => ?_)
      · replace H := H.1 c4
        refine wp_iconst rfl ?_
        refine wp_zret rfl rfl (by decide) ?_
        show Wp X _ 192 5 [vr 62, vi (x2 - x7)] [vi 0] _ _
        refine wp_ifeqT (tn := 17) rfl rfl (by decide) ?_
        refine wp_iconst rfl ?_
        refine wp_iret rfl rfl ?_
        show Wp X _ 246 37 [vr 49, vr 62, vi x2, vl x3, vu, vl x5, vu, vi x7, zx8] [vi 8] _ _
        refine wp_istore (L2 := [vr 49, vr 62, vi x2, vl x3, vu, vl x5, vu, vi x7, vi 8]) rfl (Nat.le_of_ble_eq_true rfl) rfl ?_
        refine wp_lload rfl rfl ?_
        refine wp_aload rfl rfl ?_
        refine wp_iload rfl rfl ?_
        refine wp_iload rfl rfl ?_
        refine wp_call (k := 239) (ρ2 := 0) (L2 := [vr 49, vi 8, vi x7]) rfl rfl rfl (Nat.le_of_ble_eq_true rfl) (Nat.le_of_ble_eq_true rfl) (Nat.le_of_ble_eq_true rfl) (rcv_V rfl (congrArg Prod.fst (kf_49 X.1))) rfl ?_
        refine wp_iload rfl rfl ?_
        refine wp_ifltF (tn := 19) rfl rfl (by decide) ?_
        refine wp_iload rfl rfl ?_
        refine wp_iconst rfl ?_
        refine wp_icgeF (tn := 19) rfl rfl (by decide) ?_
        refine wp_iload rfl rfl ?_
        refine wp_iflt (tn := 19) rfl rfl (fun c5 => ?_) (fun c5 => ?_)
        · replace H := H.1 c5
          refine wp_sipush rfl ?_
          refine wp_lret rfl rfl ?_
          show Wp X _ 246 48 [vr 49, vr 62, vi x2, vl x3, vu, vl x5, vu, vi x7, vi 8] [vl 0, vl x3] _ _
          refine wp_ladd rfl ?_
          refine wp_lstore (L2 := [vr 49, vr 62, vi x2, vl (w64 (x3 + 0)), vu, vl x5, vu, vi x7, vi 8]) rfl (Nat.le_of_ble_eq_true rfl) rfl ?_
          refine wp_lload rfl rfl ?_
          refine wp_aload rfl rfl ?_
          refine wp_iload rfl rfl ?_
          refine wp_iload rfl rfl ?_
          refine wp_call (k := 240) (ρ2 := 0) (L2 := [vr 49, vi 8, vi x7]) rfl rfl rfl (Nat.le_of_ble_eq_true rfl) (Nat.le_of_ble_eq_true rfl) (Nat.le_of_ble_eq_true rfl) (rcv_V rfl (congrArg Prod.fst (kf_49 X.1))) rfl ?_
          refine wp_iload rfl rfl ?_
          refine wp_ifltF (tn := 19) rfl rfl (by decide) ?_
          refine wp_iload rfl rfl ?_
          refine wp_iconst rfl ?_
          refine wp_icgeF (tn := 19) rfl rfl (by decide) ?_
          refine wp_iload rfl rfl ?_
          refine wp_ifltT (tn := 19) rfl rfl c5 ?_
          refine wp_sipush rfl ?_
          refine wp_lret rfl rfl ?_
          show Wp X _ 246 60 [vr 49, vr 62, vi x2, vl (w64 (x3 + 0)), vu, vl x5, vu, vi x7, vi 8] [vl 0, vl x5] _ _
          refine wp_ladd rfl ?_
          refine wp_lstore (L2 := [vr 49, vr 62, vi x2, vl (w64 (x3 + 0)), vu, vl (w64 (x5 + 0)), vu, vi x7, vi 8]) rfl (Nat.le_of_ble_eq_true rfl) rfl ?_
          have g6 := H.1
          replace H := H.2
          refine wp_iincR (L2 := [vr 49, vr 62, vi x2, vl (w64 (x3 + 0)), vu, vl (w64 (x5 + 0)), vu, vi (x7 + 1), vi 8]) rfl rfl g6 rfl ?_
          refine wp_goto (tn := 14) rfl rfl ?_
          exact H
        · replace H := H.2 c5
          refine wp_iload rfl rfl ?_
          refine wp_iconst rfl ?_
          refine wp_iclt (tn := 21) rfl rfl (fun c7 => ?_) (fun c7 => ?_)
          · replace H := H.1 c7
            refine wp_aload rfl rfl ?_
            refine wp_getR (r := 49) rfl (congrArg Prod.fst (kf_49 X.1)) rfl ?_
            refine wp_iload rfl rfl ?_
            refine wp_laload rfl (kf_50 X.1) (by decide) ?_
            refine wp_aload rfl rfl ?_
            refine wp_getR (r := 51) rfl (congrArg Prod.fst (kf_49 X.1)) rfl ?_
            refine wp_iload rfl rfl ?_
            refine wp_laload rfl (kf_52 X.1) ⟨c5, c7⟩ ?_
            refine wp_land rfl ?_
            refine wp_lret rfl rfl ?_
            show Wp X _ 246 48 [vr 49, vr 62, vi x2, vl x3, vu, vl x5, vu, vi x7, vi 8] [vl ((i64 (h 50 8) &&& i64 (h 52 x7)).toInt), vl x3] _ _
            refine wp_ladd rfl ?_
            refine wp_lstore (L2 := [vr 49, vr 62, vi x2, vl (w64 (x3 + ((i64 (h 50 8) &&& i64 (h 52 x7)).toInt))), vu, vl x5, vu, vi x7, vi 8]) rfl (Nat.le_of_ble_eq_true rfl) rfl ?_
            refine wp_lload rfl rfl ?_
            refine wp_aload rfl rfl ?_
            refine wp_iload rfl rfl ?_
            refine wp_iload rfl rfl ?_
            refine wp_call (k := 240) (ρ2 := 0) (L2 := [vr 49, vi 8, vi x7]) rfl rfl rfl (Nat.le_of_ble_eq_true rfl) (Nat.le_of_ble_eq_true rfl) (Nat.le_of_ble_eq_true rfl) (rcv_V rfl (congrArg Prod.fst (kf_49 X.1))) rfl ?_
            refine wp_iload rfl rfl ?_
            refine wp_ifltF (tn := 19) rfl rfl (by decide) ?_
            refine wp_iload rfl rfl ?_
            refine wp_iconst rfl ?_
            refine wp_icgeF (tn := 19) rfl rfl (by decide) ?_
            refine wp_iload rfl rfl ?_
            refine wp_ifltF (tn := 19) rfl rfl c5 ?_
            refine wp_iload rfl rfl ?_
            refine wp_iconst rfl ?_
            refine wp_icltT (tn := 21) rfl rfl c7 ?_
            refine wp_aload rfl rfl ?_
            refine wp_getR (r := 50) rfl (congrArg Prod.fst (kf_49 X.1)) rfl ?_
            refine wp_iload rfl rfl ?_
            refine wp_laload rfl (kf_51 X.1) (by decide) ?_
            refine wp_aload rfl rfl ?_
            refine wp_getR (r := 51) rfl (congrArg Prod.fst (kf_49 X.1)) rfl ?_
            refine wp_iload rfl rfl ?_
            refine wp_laload rfl (kf_52 X.1) ⟨c5, c7⟩ ?_
            refine wp_land rfl ?_
            refine wp_lret rfl rfl ?_
            show Wp X _ 246 60 [vr 49, vr 62, vi x2, vl (w64 (x3 + ((i64 (h 50 8) &&& i64 (h 52 x7)).toInt))), vu, vl x5, vu, vi x7, vi 8] [vl ((i64 (h 51 8) &&& i64 (h 52 x7)).toInt), vl x5] _ _
            refine wp_ladd rfl ?_
            refine wp_lstore (L2 := [vr 49, vr 62, vi x2, vl (w64 (x3 + ((i64 (h 50 8) &&& i64 (h 52 x7)).toInt))), vu, vl (w64 (x5 + ((i64 (h 51 8) &&& i64 (h 52 x7)).toInt))), vu, vi x7, vi 8]) rfl (Nat.le_of_ble_eq_true rfl) rfl ?_
            refine wp_iincR (L2 := [vr 49, vr 62, vi x2, vl (w64 (x3 + ((i64 (h 50 8) &&& i64 (h 52 x7)).toInt))), vu, vl (w64 (x5 + ((i64 (h 51 8) &&& i64 (h 52 x7)).toInt))), vu, vi (x7 + 1), vi 8]) rfl rfl (by clear H; unfold R32; omega) rfl ?_
            refine wp_goto (tn := 14) rfl rfl ?_
            exact H
          · replace H := H.2 c7
            refine wp_sipush rfl ?_
            refine wp_lret rfl rfl ?_
            show Wp X _ 246 48 [vr 49, vr 62, vi x2, vl x3, vu, vl x5, vu, vi x7, vi 8] [vl 0, vl x3] _ _
            refine wp_ladd rfl ?_
            refine wp_lstore (L2 := [vr 49, vr 62, vi x2, vl (w64 (x3 + 0)), vu, vl x5, vu, vi x7, vi 8]) rfl (Nat.le_of_ble_eq_true rfl) rfl ?_
            refine wp_lload rfl rfl ?_
            refine wp_aload rfl rfl ?_
            refine wp_iload rfl rfl ?_
            refine wp_iload rfl rfl ?_
            refine wp_call (k := 240) (ρ2 := 0) (L2 := [vr 49, vi 8, vi x7]) rfl rfl rfl (Nat.le_of_ble_eq_true rfl) (Nat.le_of_ble_eq_true rfl) (Nat.le_of_ble_eq_true rfl) (rcv_V rfl (congrArg Prod.fst (kf_49 X.1))) rfl ?_
            refine wp_iload rfl rfl ?_
            refine wp_ifltF (tn := 19) rfl rfl (by decide) ?_
            refine wp_iload rfl rfl ?_
            refine wp_iconst rfl ?_
            refine wp_icgeF (tn := 19) rfl rfl (by decide) ?_
            refine wp_iload rfl rfl ?_
            refine wp_ifltF (tn := 19) rfl rfl c5 ?_
            refine wp_iload rfl rfl ?_
            refine wp_iconst rfl ?_
            refine wp_icltF (tn := 21) rfl rfl c7 ?_
            refine wp_sipush rfl ?_
            refine wp_lret rfl rfl ?_
            show Wp X _ 246 60 [vr 49, vr 62, vi x2, vl (w64 (x3 + 0)), vu, vl x5, vu, vi x7, vi 8] [vl 0, vl x5] _ _
            refine wp_ladd rfl ?_
            refine wp_lstore (L2 := [vr 49, vr 62, vi x2, vl (w64 (x3 + 0)), vu, vl (w64 (x5 + 0)), vu, vi x7, vi 8]) rfl (Nat.le_of_ble_eq_true rfl) rfl ?_
            have g8 := H.1
            replace H := H.2
            refine wp_iincR (L2 := [vr 49, vr 62, vi x2, vl (w64 (x3 + 0)), vu, vl (w64 (x5 + 0)), vu, vi (x7 + 1), vi 8]) rfl rfl g8 rfl ?_
            refine wp_goto (tn := 14) rfl rfl ?_
            exact H
      · replace H := H.2 c4
        refine wp_iload rfl rfl ?_
        refine wp_aload rfl rfl ?_
        refine wp_getI (j := 6) rfl (congrArg Prod.fst (kf_62 X.1)) rfl ?_
        refine wp_icge (tn := 16) rfl rfl (fun c9 => ?_) (fun c9 => ?_)
        · replace H := H.1 c9
          refine wp_iconst rfl ?_
          refine wp_zret rfl rfl (by decide) ?_
          show Wp X _ 192 5 [vr 62, vi (x2 - x7)] [vi 0] _ _
          refine wp_ifeqT (tn := 17) rfl rfl (by decide) ?_
          refine wp_iconst rfl ?_
          refine wp_iret rfl rfl ?_
          show Wp X _ 246 37 [vr 49, vr 62, vi x2, vl x3, vu, vl x5, vu, vi x7, zx8] [vi 8] _ _
          refine wp_istore (L2 := [vr 49, vr 62, vi x2, vl x3, vu, vl x5, vu, vi x7, vi 8]) rfl (Nat.le_of_ble_eq_true rfl) rfl ?_
          refine wp_lload rfl rfl ?_
          refine wp_aload rfl rfl ?_
          refine wp_iload rfl rfl ?_
          refine wp_iload rfl rfl ?_
          refine wp_call (k := 239) (ρ2 := 0) (L2 := [vr 49, vi 8, vi x7]) rfl rfl rfl (Nat.le_of_ble_eq_true rfl) (Nat.le_of_ble_eq_true rfl) (Nat.le_of_ble_eq_true rfl) (rcv_V rfl (congrArg Prod.fst (kf_49 X.1))) rfl ?_
          refine wp_iload rfl rfl ?_
          refine wp_ifltF (tn := 19) rfl rfl (by decide) ?_
          refine wp_iload rfl rfl ?_
          refine wp_iconst rfl ?_
          refine wp_icgeF (tn := 19) rfl rfl (by decide) ?_
          refine wp_iload rfl rfl ?_
          refine wp_iflt (tn := 19) rfl rfl (fun c10 => ?_) (fun c10 => ?_)
          · replace H := H.1 c10
            refine wp_sipush rfl ?_
            refine wp_lret rfl rfl ?_
            show Wp X _ 246 48 [vr 49, vr 62, vi x2, vl x3, vu, vl x5, vu, vi x7, vi 8] [vl 0, vl x3] _ _
            refine wp_ladd rfl ?_
            refine wp_lstore (L2 := [vr 49, vr 62, vi x2, vl (w64 (x3 + 0)), vu, vl x5, vu, vi x7, vi 8]) rfl (Nat.le_of_ble_eq_true rfl) rfl ?_
            refine wp_lload rfl rfl ?_
            refine wp_aload rfl rfl ?_
            refine wp_iload rfl rfl ?_
            refine wp_iload rfl rfl ?_
            refine wp_call (k := 240) (ρ2 := 0) (L2 := [vr 49, vi 8, vi x7]) rfl rfl rfl (Nat.le_of_ble_eq_true rfl) (Nat.le_of_ble_eq_true rfl) (Nat.le_of_ble_eq_true rfl) (rcv_V rfl (congrArg Prod.fst (kf_49 X.1))) rfl ?_
            refine wp_iload rfl rfl ?_
            refine wp_ifltF (tn := 19) rfl rfl (by decide) ?_
            refine wp_iload rfl rfl ?_
            refine wp_iconst rfl ?_
            refine wp_icgeF (tn := 19) rfl rfl (by decide) ?_
            refine wp_iload rfl rfl ?_
            refine wp_ifltT (tn := 19) rfl rfl c10 ?_
            refine wp_sipush rfl ?_
            refine wp_lret rfl rfl ?_
            show Wp X _ 246 60 [vr 49, vr 62, vi x2, vl (w64 (x3 + 0)), vu, vl x5, vu, vi x7, vi 8] [vl 0, vl x5] _ _
            refine wp_ladd rfl ?_
            refine wp_lstore (L2 := [vr 49, vr 62, vi x2, vl (w64 (x3 + 0)), vu, vl (w64 (x5 + 0)), vu, vi x7, vi 8]) rfl (Nat.le_of_ble_eq_true rfl) rfl ?_
            have g11 := H.1
            replace H := H.2
            refine wp_iincR (L2 := [vr 49, vr 62, vi x2, vl (w64 (x3 + 0)), vu, vl (w64 (x5 + 0)), vu, vi (x7 + 1), vi 8]) rfl rfl g11 rfl ?_
            refine wp_goto (tn := 14) rfl rfl ?_
            exact H
          · replace H := H.2 c10
            refine wp_iload rfl rfl ?_
            refine wp_iconst rfl ?_
            refine wp_iclt (tn := 21) rfl rfl (fun c12 => ?_) (fun c12 => ?_)
            · replace H := H.1 c12
              refine wp_aload rfl rfl ?_
              refine wp_getR (r := 49) rfl (congrArg Prod.fst (kf_49 X.1)) rfl ?_
              refine wp_iload rfl rfl ?_
              refine wp_laload rfl (kf_50 X.1) (by decide) ?_
              refine wp_aload rfl rfl ?_
              refine wp_getR (r := 51) rfl (congrArg Prod.fst (kf_49 X.1)) rfl ?_
              refine wp_iload rfl rfl ?_
              refine wp_laload rfl (kf_52 X.1) ⟨c10, c12⟩ ?_
              refine wp_land rfl ?_
              refine wp_lret rfl rfl ?_
              show Wp X _ 246 48 [vr 49, vr 62, vi x2, vl x3, vu, vl x5, vu, vi x7, vi 8] [vl ((i64 (h 50 8) &&& i64 (h 52 x7)).toInt), vl x3] _ _
              refine wp_ladd rfl ?_
              refine wp_lstore (L2 := [vr 49, vr 62, vi x2, vl (w64 (x3 + ((i64 (h 50 8) &&& i64 (h 52 x7)).toInt))), vu, vl x5, vu, vi x7, vi 8]) rfl (Nat.le_of_ble_eq_true rfl) rfl ?_
              refine wp_lload rfl rfl ?_
              refine wp_aload rfl rfl ?_
              refine wp_iload rfl rfl ?_
              refine wp_iload rfl rfl ?_
              refine wp_call (k := 240) (ρ2 := 0) (L2 := [vr 49, vi 8, vi x7]) rfl rfl rfl (Nat.le_of_ble_eq_true rfl) (Nat.le_of_ble_eq_true rfl) (Nat.le_of_ble_eq_true rfl) (rcv_V rfl (congrArg Prod.fst (kf_49 X.1))) rfl ?_
              refine wp_iload rfl rfl ?_
              refine wp_ifltF (tn := 19) rfl rfl (by decide) ?_
              refine wp_iload rfl rfl ?_
              refine wp_iconst rfl ?_
              refine wp_icgeF (tn := 19) rfl rfl (by decide) ?_
              refine wp_iload rfl rfl ?_
              refine wp_ifltF (tn := 19) rfl rfl c10 ?_
              refine wp_iload rfl rfl ?_
              refine wp_iconst rfl ?_
              refine wp_icltT (tn := 21) rfl rfl c12 ?_
              refine wp_aload rfl rfl ?_
              refine wp_getR (r := 50) rfl (congrArg Prod.fst (kf_49 X.1)) rfl ?_
              refine wp_iload rfl rfl ?_
              refine wp_laload rfl (kf_51 X.1) (by decide) ?_
              refine wp_aload rfl rfl ?_
              refine wp_getR (r := 51) rfl (congrArg Prod.fst (kf_49 X.1)) rfl ?_
              refine wp_iload rfl rfl ?_
              refine wp_laload rfl (kf_52 X.1) ⟨c10, c12⟩ ?_
              refine wp_land rfl ?_
              refine wp_lret rfl rfl ?_
              show Wp X _ 246 60 [vr 49, vr 62, vi x2, vl (w64 (x3 + ((i64 (h 50 8) &&& i64 (h 52 x7)).toInt))), vu, vl x5, vu, vi x7, vi 8] [vl ((i64 (h 51 8) &&& i64 (h 52 x7)).toInt), vl x5] _ _
              refine wp_ladd rfl ?_
              refine wp_lstore (L2 := [vr 49, vr 62, vi x2, vl (w64 (x3 + ((i64 (h 50 8) &&& i64 (h 52 x7)).toInt))), vu, vl (w64 (x5 + ((i64 (h 51 8) &&& i64 (h 52 x7)).toInt))), vu, vi x7, vi 8]) rfl (Nat.le_of_ble_eq_true rfl) rfl ?_
              refine wp_iincR (L2 := [vr 49, vr 62, vi x2, vl (w64 (x3 + ((i64 (h 50 8) &&& i64 (h 52 x7)).toInt))), vu, vl (w64 (x5 + ((i64 (h 51 8) &&& i64 (h 52 x7)).toInt))), vu, vi (x7 + 1), vi 8]) rfl rfl (by clear H; unfold R32; omega) rfl ?_
              refine wp_goto (tn := 14) rfl rfl ?_
              exact H
            · replace H := H.2 c12
              refine wp_sipush rfl ?_
              refine wp_lret rfl rfl ?_
              show Wp X _ 246 48 [vr 49, vr 62, vi x2, vl x3, vu, vl x5, vu, vi x7, vi 8] [vl 0, vl x3] _ _
              refine wp_ladd rfl ?_
              refine wp_lstore (L2 := [vr 49, vr 62, vi x2, vl (w64 (x3 + 0)), vu, vl x5, vu, vi x7, vi 8]) rfl (Nat.le_of_ble_eq_true rfl) rfl ?_
              refine wp_lload rfl rfl ?_
              refine wp_aload rfl rfl ?_
              refine wp_iload rfl rfl ?_
              refine wp_iload rfl rfl ?_
              refine wp_call (k := 240) (ρ2 := 0) (L2 := [vr 49, vi 8, vi x7]) rfl rfl rfl (Nat.le_of_ble_eq_true rfl) (Nat.le_of_ble_eq_true rfl) (Nat.le_of_ble_eq_true rfl) (rcv_V rfl (congrArg Prod.fst (kf_49 X.1))) rfl ?_
              refine wp_iload rfl rfl ?_
              refine wp_ifltF (tn := 19) rfl rfl (by decide) ?_
              refine wp_iload rfl rfl ?_
              refine wp_iconst rfl ?_
              refine wp_icgeF (tn := 19) rfl rfl (by decide) ?_
              refine wp_iload rfl rfl ?_
              refine wp_ifltF (tn := 19) rfl rfl c10 ?_
              refine wp_iload rfl rfl ?_
              refine wp_iconst rfl ?_
              refine wp_icltF (tn := 21) rfl rfl c12 ?_
              refine wp_sipush rfl ?_
              refine wp_lret rfl rfl ?_
              show Wp X _ 246 60 [vr 49, vr 62, vi x2, vl (w64 (x3 + 0)), vu, vl x5, vu, vi x7, vi 8] [vl 0, vl x5] _ _
              refine wp_ladd rfl ?_
              refine wp_lstore (L2 := [vr 49, vr 62, vi x2, vl (w64 (x3 + 0)), vu, vl (w64 (x5 + 0)), vu, vi x7, vi 8]) rfl (Nat.le_of_ble_eq_true rfl) rfl ?_
              have g13 := H.1
              replace H := H.2
              refine wp_iincR (L2 := [vr 49, vr 62, vi x2, vl (w64 (x3 + 0)), vu, vl (w64 (x5 + 0)), vu, vi (x7 + 1), vi 8]) rfl rfl g13 rfl ?_
              refine wp_goto (tn := 14) rfl rfl ?_
              exact H
        · replace H := H.2 c9
          refine wp_iconst rfl ?_
          refine wp_goto (tn := 17) rfl rfl ?_
          refine wp_zret rfl rfl (by decide) ?_
          show Wp X _ 192 5 [vr 62, vi (x2 - x7)] [vi 1] _ _
          refine wp_ifeqF (tn := 17) rfl rfl (by decide) ?_
          refine wp_aload rfl rfl ?_
          refine wp_getR (r := 64) rfl (congrArg Prod.fst (kf_62 X.1)) rfl ?_
          refine wp_iload rfl rfl ?_
          have g14 := H.1
          replace H := H.2
          refine wp_iaload rfl (kf_65 X.1) g14 ?_
          refine wp_goto (tn := 19) rfl rfl ?_
          refine wp_iret rfl rfl ?_
          show Wp X _ 246 37 [vr 49, vr 62, vi x2, vl x3, vu, vl x5, vu, vi x7, zx8] [vi (h 65 (x2 - x7))] _ _
          refine wp_istore (L2 := [vr 49, vr 62, vi x2, vl x3, vu, vl x5, vu, vi x7, vi (h 65 (x2 - x7))]) rfl (Nat.le_of_ble_eq_true rfl) rfl ?_
          refine wp_lload rfl rfl ?_
          refine wp_aload rfl rfl ?_
          refine wp_iload rfl rfl ?_
          refine wp_iload rfl rfl ?_
          refine wp_call (k := 239) (ρ2 := 0) (L2 := [vr 49, vi (h 65 (x2 - x7)), vi x7]) rfl rfl rfl (Nat.le_of_ble_eq_true rfl) (Nat.le_of_ble_eq_true rfl) (Nat.le_of_ble_eq_true rfl) (rcv_V rfl (congrArg Prod.fst (kf_49 X.1))) rfl ?_
          refine wp_iload rfl rfl ?_
          refine wp_iflt (tn := 19) rfl rfl (fun c15 => ?_) (fun c15 => ?_)
          · replace H := H.1 c15
            refine wp_sipush rfl ?_
            refine wp_lret rfl rfl ?_
            show Wp X _ 246 48 [vr 49, vr 62, vi x2, vl x3, vu, vl x5, vu, vi x7, vi (h 65 (x2 - x7))] [vl 0, vl x3] _ _
            refine wp_ladd rfl ?_
            refine wp_lstore (L2 := [vr 49, vr 62, vi x2, vl (w64 (x3 + 0)), vu, vl x5, vu, vi x7, vi (h 65 (x2 - x7))]) rfl (Nat.le_of_ble_eq_true rfl) rfl ?_
            refine wp_lload rfl rfl ?_
            refine wp_aload rfl rfl ?_
            refine wp_iload rfl rfl ?_
            refine wp_iload rfl rfl ?_
            refine wp_call (k := 240) (ρ2 := 0) (L2 := [vr 49, vi (h 65 (x2 - x7)), vi x7]) rfl rfl rfl (Nat.le_of_ble_eq_true rfl) (Nat.le_of_ble_eq_true rfl) (Nat.le_of_ble_eq_true rfl) (rcv_V rfl (congrArg Prod.fst (kf_49 X.1))) rfl ?_
            refine wp_iload rfl rfl ?_
            refine wp_ifltT (tn := 19) rfl rfl c15 ?_
            refine wp_sipush rfl ?_
            refine wp_lret rfl rfl ?_
            show Wp X _ 246 60 [vr 49, vr 62, vi x2, vl (w64 (x3 + 0)), vu, vl x5, vu, vi x7, vi (h 65 (x2 - x7))] [vl 0, vl x5] _ _
            refine wp_ladd rfl ?_
            refine wp_lstore (L2 := [vr 49, vr 62, vi x2, vl (w64 (x3 + 0)), vu, vl (w64 (x5 + 0)), vu, vi x7, vi (h 65 (x2 - x7))]) rfl (Nat.le_of_ble_eq_true rfl) rfl ?_
            have g16 := H.1
            replace H := H.2
            refine wp_iincR (L2 := [vr 49, vr 62, vi x2, vl (w64 (x3 + 0)), vu, vl (w64 (x5 + 0)), vu, vi (x7 + 1), vi (h 65 (x2 - x7))]) rfl rfl g16 rfl ?_
            refine wp_goto (tn := 14) rfl rfl ?_
            exact H
          · replace H := H.2 c15
            refine wp_iload rfl rfl ?_
            refine wp_iconst rfl ?_
            refine wp_icge (tn := 19) rfl rfl (fun c17 => ?_) (fun c17 => ?_)
            · replace H := H.1 c17
              refine wp_sipush rfl ?_
              refine wp_lret rfl rfl ?_
              show Wp X _ 246 48 [vr 49, vr 62, vi x2, vl x3, vu, vl x5, vu, vi x7, vi (h 65 (x2 - x7))] [vl 0, vl x3] _ _
              refine wp_ladd rfl ?_
              refine wp_lstore (L2 := [vr 49, vr 62, vi x2, vl (w64 (x3 + 0)), vu, vl x5, vu, vi x7, vi (h 65 (x2 - x7))]) rfl (Nat.le_of_ble_eq_true rfl) rfl ?_
              refine wp_lload rfl rfl ?_
              refine wp_aload rfl rfl ?_
              refine wp_iload rfl rfl ?_
              refine wp_iload rfl rfl ?_
              refine wp_call (k := 240) (ρ2 := 0) (L2 := [vr 49, vi (h 65 (x2 - x7)), vi x7]) rfl rfl rfl (Nat.le_of_ble_eq_true rfl) (Nat.le_of_ble_eq_true rfl) (Nat.le_of_ble_eq_true rfl) (rcv_V rfl (congrArg Prod.fst (kf_49 X.1))) rfl ?_
              refine wp_iload rfl rfl ?_
              refine wp_ifltF (tn := 19) rfl rfl c15 ?_
              refine wp_iload rfl rfl ?_
              refine wp_iconst rfl ?_
              refine wp_icgeT (tn := 19) rfl rfl c17 ?_
              refine wp_sipush rfl ?_
              refine wp_lret rfl rfl ?_
              show Wp X _ 246 60 [vr 49, vr 62, vi x2, vl (w64 (x3 + 0)), vu, vl x5, vu, vi x7, vi (h 65 (x2 - x7))] [vl 0, vl x5] _ _
              refine wp_ladd rfl ?_
              refine wp_lstore (L2 := [vr 49, vr 62, vi x2, vl (w64 (x3 + 0)), vu, vl (w64 (x5 + 0)), vu, vi x7, vi (h 65 (x2 - x7))]) rfl (Nat.le_of_ble_eq_true rfl) rfl ?_
              have g18 := H.1
              replace H := H.2
              refine wp_iincR (L2 := [vr 49, vr 62, vi x2, vl (w64 (x3 + 0)), vu, vl (w64 (x5 + 0)), vu, vi (x7 + 1), vi (h 65 (x2 - x7))]) rfl rfl g18 rfl ?_
              refine wp_goto (tn := 14) rfl rfl ?_
              exact H
            · replace H := H.2 c17
              refine wp_iload rfl rfl ?_
              refine wp_iflt (tn := 19) rfl rfl (fun c19 => ?_) (fun c19 => ?_)
              · replace H := H.1 c19
                refine wp_sipush rfl ?_
                refine wp_lret rfl rfl ?_
                show Wp X _ 246 48 [vr 49, vr 62, vi x2, vl x3, vu, vl x5, vu, vi x7, vi (h 65 (x2 - x7))] [vl 0, vl x3] _ _
                refine wp_ladd rfl ?_
                refine wp_lstore (L2 := [vr 49, vr 62, vi x2, vl (w64 (x3 + 0)), vu, vl x5, vu, vi x7, vi (h 65 (x2 - x7))]) rfl (Nat.le_of_ble_eq_true rfl) rfl ?_
                refine wp_lload rfl rfl ?_
                refine wp_aload rfl rfl ?_
                refine wp_iload rfl rfl ?_
                refine wp_iload rfl rfl ?_
                refine wp_call (k := 240) (ρ2 := 0) (L2 := [vr 49, vi (h 65 (x2 - x7)), vi x7]) rfl rfl rfl (Nat.le_of_ble_eq_true rfl) (Nat.le_of_ble_eq_true rfl) (Nat.le_of_ble_eq_true rfl) (rcv_V rfl (congrArg Prod.fst (kf_49 X.1))) rfl ?_
                refine wp_iload rfl rfl ?_
                refine wp_ifltF (tn := 19) rfl rfl c15 ?_
                refine wp_iload rfl rfl ?_
                refine wp_iconst rfl ?_
                refine wp_icgeF (tn := 19) rfl rfl c17 ?_
                refine wp_iload rfl rfl ?_
                refine wp_ifltT (tn := 19) rfl rfl c19 ?_
                refine wp_sipush rfl ?_
                refine wp_lret rfl rfl ?_
                show Wp X _ 246 60 [vr 49, vr 62, vi x2, vl (w64 (x3 + 0)), vu, vl x5, vu, vi x7, vi (h 65 (x2 - x7))] [vl 0, vl x5] _ _
                refine wp_ladd rfl ?_
                refine wp_lstore (L2 := [vr 49, vr 62, vi x2, vl (w64 (x3 + 0)), vu, vl (w64 (x5 + 0)), vu, vi x7, vi (h 65 (x2 - x7))]) rfl (Nat.le_of_ble_eq_true rfl) rfl ?_
                have g20 := H.1
                replace H := H.2
                refine wp_iincR (L2 := [vr 49, vr 62, vi x2, vl (w64 (x3 + 0)), vu, vl (w64 (x5 + 0)), vu, vi (x7 + 1), vi (h 65 (x2 - x7))]) rfl rfl g20 rfl ?_
                refine wp_goto (tn := 14) rfl rfl ?_
                exact H
              · replace H := H.2 c19
                refine wp_iload rfl rfl ?_
                refine wp_iconst rfl ?_
                refine wp_iclt (tn := 21) rfl rfl (fun c21 => ?_) (fun c21 => ?_)
                · replace H := H.1 c21
                  refine wp_aload rfl rfl ?_
                  refine wp_getR (r := 49) rfl (congrArg Prod.fst (kf_49 X.1)) rfl ?_
                  refine wp_iload rfl rfl ?_
                  refine wp_laload rfl (kf_50 X.1) ⟨c15, c17⟩ ?_
                  refine wp_aload rfl rfl ?_
                  refine wp_getR (r := 51) rfl (congrArg Prod.fst (kf_49 X.1)) rfl ?_
                  refine wp_iload rfl rfl ?_
                  refine wp_laload rfl (kf_52 X.1) ⟨c19, c21⟩ ?_
                  refine wp_land rfl ?_
                  refine wp_lret rfl rfl ?_
                  show Wp X _ 246 48 [vr 49, vr 62, vi x2, vl x3, vu, vl x5, vu, vi x7, vi (h 65 (x2 - x7))] [vl ((i64 (h 50 (h 65 (x2 - x7))) &&& i64 (h 52 x7)).toInt), vl x3] _ _
                  refine wp_ladd rfl ?_
                  refine wp_lstore (L2 := [vr 49, vr 62, vi x2, vl (w64 (x3 + ((i64 (h 50 (h 65 (x2 - x7))) &&& i64 (h 52 x7)).toInt))), vu, vl x5, vu, vi x7, vi (h 65 (x2 - x7))]) rfl (Nat.le_of_ble_eq_true rfl) rfl ?_
                  refine wp_lload rfl rfl ?_
                  refine wp_aload rfl rfl ?_
                  refine wp_iload rfl rfl ?_
                  refine wp_iload rfl rfl ?_
                  refine wp_call (k := 240) (ρ2 := 0) (L2 := [vr 49, vi (h 65 (x2 - x7)), vi x7]) rfl rfl rfl (Nat.le_of_ble_eq_true rfl) (Nat.le_of_ble_eq_true rfl) (Nat.le_of_ble_eq_true rfl) (rcv_V rfl (congrArg Prod.fst (kf_49 X.1))) rfl ?_
                  refine wp_iload rfl rfl ?_
                  refine wp_ifltF (tn := 19) rfl rfl c15 ?_
                  refine wp_iload rfl rfl ?_
                  refine wp_iconst rfl ?_
                  refine wp_icgeF (tn := 19) rfl rfl c17 ?_
                  refine wp_iload rfl rfl ?_
                  refine wp_ifltF (tn := 19) rfl rfl c19 ?_
                  refine wp_iload rfl rfl ?_
                  refine wp_iconst rfl ?_
                  refine wp_icltT (tn := 21) rfl rfl c21 ?_
                  refine wp_aload rfl rfl ?_
                  refine wp_getR (r := 50) rfl (congrArg Prod.fst (kf_49 X.1)) rfl ?_
                  refine wp_iload rfl rfl ?_
                  refine wp_laload rfl (kf_51 X.1) ⟨c15, c17⟩ ?_
                  refine wp_aload rfl rfl ?_
                  refine wp_getR (r := 51) rfl (congrArg Prod.fst (kf_49 X.1)) rfl ?_
                  refine wp_iload rfl rfl ?_
                  refine wp_laload rfl (kf_52 X.1) ⟨c19, c21⟩ ?_
                  refine wp_land rfl ?_
                  refine wp_lret rfl rfl ?_
                  show Wp X _ 246 60 [vr 49, vr 62, vi x2, vl (w64 (x3 + ((i64 (h 50 (h 65 (x2 - x7))) &&& i64 (h 52 x7)).toInt))), vu, vl x5, vu, vi x7, vi (h 65 (x2 - x7))] [vl ((i64 (h 51 (h 65 (x2 - x7))) &&& i64 (h 52 x7)).toInt), vl x5] _ _
                  refine wp_ladd rfl ?_
                  refine wp_lstore (L2 := [vr 49, vr 62, vi x2, vl (w64 (x3 + ((i64 (h 50 (h 65 (x2 - x7))) &&& i64 (h 52 x7)).toInt))), vu, vl (w64 (x5 + ((i64 (h 51 (h 65 (x2 - x7))) &&& i64 (h 52 x7)).toInt))), vu, vi x7, vi (h 65 (x2 - x7))]) rfl (Nat.le_of_ble_eq_true rfl) rfl ?_
                  refine wp_iincR (L2 := [vr 49, vr 62, vi x2, vl (w64 (x3 + ((i64 (h 50 (h 65 (x2 - x7))) &&& i64 (h 52 x7)).toInt))), vu, vl (w64 (x5 + ((i64 (h 51 (h 65 (x2 - x7))) &&& i64 (h 52 x7)).toInt))), vu, vi (x7 + 1), vi (h 65 (x2 - x7))]) rfl rfl (by clear H; unfold R32; omega) rfl ?_
                  refine wp_goto (tn := 14) rfl rfl ?_
                  exact H
                · replace H := H.2 c21
                  refine wp_sipush rfl ?_
                  refine wp_lret rfl rfl ?_
                  show Wp X _ 246 48 [vr 49, vr 62, vi x2, vl x3, vu, vl x5, vu, vi x7, vi (h 65 (x2 - x7))] [vl 0, vl x3] _ _
                  refine wp_ladd rfl ?_
                  refine wp_lstore (L2 := [vr 49, vr 62, vi x2, vl (w64 (x3 + 0)), vu, vl x5, vu, vi x7, vi (h 65 (x2 - x7))]) rfl (Nat.le_of_ble_eq_true rfl) rfl ?_
                  refine wp_lload rfl rfl ?_
                  refine wp_aload rfl rfl ?_
                  refine wp_iload rfl rfl ?_
                  refine wp_iload rfl rfl ?_
                  refine wp_call (k := 240) (ρ2 := 0) (L2 := [vr 49, vi (h 65 (x2 - x7)), vi x7]) rfl rfl rfl (Nat.le_of_ble_eq_true rfl) (Nat.le_of_ble_eq_true rfl) (Nat.le_of_ble_eq_true rfl) (rcv_V rfl (congrArg Prod.fst (kf_49 X.1))) rfl ?_
                  refine wp_iload rfl rfl ?_
                  refine wp_ifltF (tn := 19) rfl rfl c15 ?_
                  refine wp_iload rfl rfl ?_
                  refine wp_iconst rfl ?_
                  refine wp_icgeF (tn := 19) rfl rfl c17 ?_
                  refine wp_iload rfl rfl ?_
                  refine wp_ifltF (tn := 19) rfl rfl c19 ?_
                  refine wp_iload rfl rfl ?_
                  refine wp_iconst rfl ?_
                  refine wp_icltF (tn := 21) rfl rfl c21 ?_
                  refine wp_sipush rfl ?_
                  refine wp_lret rfl rfl ?_
                  show Wp X _ 246 60 [vr 49, vr 62, vi x2, vl (w64 (x3 + 0)), vu, vl x5, vu, vi x7, vi (h 65 (x2 - x7))] [vl 0, vl x5] _ _
                  refine wp_ladd rfl ?_
                  refine wp_lstore (L2 := [vr 49, vr 62, vi x2, vl (w64 (x3 + 0)), vu, vl (w64 (x5 + 0)), vu, vi x7, vi (h 65 (x2 - x7))]) rfl (Nat.le_of_ble_eq_true rfl) rfl ?_
                  have g22 := H.1
                  replace H := H.2
                  refine wp_iincR (L2 := [vr 49, vr 62, vi x2, vl (w64 (x3 + 0)), vu, vl (w64 (x5 + 0)), vu, vi (x7 + 1), vi (h 65 (x2 - x7))]) rfl rfl g22 rfl ?_
                  refine wp_goto (tn := 14) rfl rfl ?_
                  exact H
/-- ZoneRules.reachedAt(L$Row;I)J, from 0 -/
theorem S246_57_37_0 {X : Nat × (Int → Int)} {h : HP} {Q : bQ} (x2 : Int) (H : Wp X 2 246 14 [vr 57, vr 37, vi x2, vl (h 57 3), vu, vl (h 57 3), vu, vi 0, vu] [] h Q) : Wp X 2 246 0 [vr 57, vr 37, vi x2, vu, vu, vu, vu, vu, vu] [] h Q := by
  refine wp_aload rfl rfl ?_
  refine wp_getL (j := 3) rfl (congrArg Prod.fst (kf_57 X.1)) rfl ?_
  refine wp_lstore (L2 := [vr 57, vr 37, vi x2, vl (h 57 3), vu, vu, vu, vu, vu]) rfl (Nat.le_of_ble_eq_true rfl) rfl ?_
  refine wp_aload rfl rfl ?_
  refine wp_getL (j := 3) rfl (congrArg Prod.fst (kf_57 X.1)) rfl ?_
  refine wp_lstore (L2 := [vr 57, vr 37, vi x2, vl (h 57 3), vu, vl (h 57 3), vu, vu, vu]) rfl (Nat.le_of_ble_eq_true rfl) rfl ?_
  refine wp_iconst rfl ?_
  refine wp_istore (L2 := [vr 57, vr 37, vi x2, vl (h 57 3), vu, vl (h 57 3), vu, vi 0, vu]) rfl (Nat.le_of_ble_eq_true rfl) rfl ?_
  exact H
/-- ZoneRules.reachedAt(L$Row;I)J, from 14 -/
theorem S246_57_37_14 {X : Nat × (Int → Int)} {h : HP} {Q : bQ} (x2 : Int) (x3 : Int) (x5 : Int) (x7 : Int) (zx8 : aV) (H : (((h 57 4) ≤ x7 → Q (some (vl ((i64 ((i64 x3 ||| i64 x5).toInt) &&& i64 (-9187201950435737472)).toInt))) h) ∧ (x7 < (h 57 4) → ((x2 < x7 → Q (some (vl ((i64 ((i64 x3 ||| i64 x5).toInt) &&& i64 (-9187201950435737472)).toInt))) h) ∧ (x7 ≤ x2 → ((R32 (x2 - x7)) ∧ (((x2 - x7) < 0 → ((x7 < 0 → ((R32 (x7 + 1)) ∧ Wp X 2 246 14 [vr 57, vr 37, vi x2, vl (w64 (x3 + 0)), vu, vl (w64 (x5 + 0)), vu, vi (x7 + 1), vi 8] [] h Q)) ∧ (0 ≤ x7 → ((x7 < 5 → Wp X 2 246 14 [vr 57, vr 37, vi x2, vl (w64 (x3 + ((i64 (h 58 8) &&& i64 (h 60 x7)).toInt))), vu, vl (w64 (x5 + ((i64 (h 59 8) &&& i64 (h 60 x7)).toInt))), vu, vi (x7 + 1), vi 8] [] h Q) ∧ (5 ≤ x7 → ((R32 (x7 + 1)) ∧ Wp X 2 246 14 [vr 57, vr 37, vi x2, vl (w64 (x3 + 0)), vu, vl (w64 (x5 + 0)), vu, vi (x7 + 1), vi 8] [] h Q)))))) ∧ (0 ≤ (x2 - x7) → (((h 37 6) ≤ (x2 - x7) → ((x7 < 0 → ((R32 (x7 + 1)) ∧ Wp X 2 246 14 [vr 57, vr 37, vi x2, vl (w64 (x3 + 0)), vu, vl (w64 (x5 + 0)), vu, vi (x7 + 1), vi 8] [] h Q)) ∧ (0 ≤ x7 → ((x7 < 5 → Wp X 2 246 14 [vr 57, vr 37, vi x2, vl (w64 (x3 + ((i64 (h 58 8) &&& i64 (h 60 x7)).toInt))), vu, vl (w64 (x5 + ((i64 (h 59 8) &&& i64 (h 60 x7)).toInt))), vu, vi (x7 + 1), vi 8] [] h Q) ∧ (5 ≤ x7 → ((R32 (x7 + 1)) ∧ Wp X 2 246 14 [vr 57, vr 37, vi x2, vl (w64 (x3 + 0)), vu, vl (w64 (x5 + 0)), vu, vi (x7 + 1), vi 8] [] h Q)))))) ∧ ((x2 - x7) < (h 37 6) → ((0 ≤ (x2 - x7) ∧ (x2 - x7) < 20) ∧ (((h 40 (x2 - x7)) < 0 → ((R32 (x7 + 1)) ∧ Wp X 2 246 14 [vr 57, vr 37, vi x2, vl (w64 (x3 + 0)), vu, vl (w64 (x5 + 0)), vu, vi (x7 + 1), vi (h 40 (x2 - x7))] [] h Q)) ∧ (0 ≤ (h 40 (x2 - x7)) → ((9 ≤ (h 40 (x2 - x7)) → ((R32 (x7 + 1)) ∧ Wp X 2 246 14 [vr 57, vr 37, vi x2, vl (w64 (x3 + 0)), vu, vl (w64 (x5 + 0)), vu, vi (x7 + 1), vi (h 40 (x2 - x7))] [] h Q)) ∧ ((h 40 (x2 - x7)) < 9 → ((x7 < 0 → ((R32 (x7 + 1)) ∧ Wp X 2 246 14 [vr 57, vr 37, vi x2, vl (w64 (x3 + 0)), vu, vl (w64 (x5 + 0)), vu, vi (x7 + 1), vi (h 40 (x2 - x7))] [] h Q)) ∧ (0 ≤ x7 → ((x7 < 5 → Wp X 2 246 14 [vr 57, vr 37, vi x2, vl (w64 (x3 + ((i64 (h 58 (h 40 (x2 - x7))) &&& i64 (h 60 x7)).toInt))), vu, vl (w64 (x5 + ((i64 (h 59 (h 40 (x2 - x7))) &&& i64 (h 60 x7)).toInt))), vu, vi (x7 + 1), vi (h 40 (x2 - x7))] [] h Q) ∧ (5 ≤ x7 → ((R32 (x7 + 1)) ∧ Wp X 2 246 14 [vr 57, vr 37, vi x2, vl (w64 (x3 + 0)), vu, vl (w64 (x5 + 0)), vu, vi (x7 + 1), vi (h 40 (x2 - x7))] [] h Q)))))))))))))))))))) : Wp X 2 246 14 [vr 57, vr 37, vi x2, vl x3, vu, vl x5, vu, vi x7, zx8] [] h Q := by
  refine wp_iload rfl rfl ?_
  refine wp_aload rfl rfl ?_
  refine wp_getI (j := 4) rfl (congrArg Prod.fst (kf_57 X.1)) rfl ?_
  refine wp_icge (tn := 69) rfl rfl (fun c1 => ?_) (fun c1 => ?_)
  · replace H := H.1 c1
    refine wp_lload rfl rfl ?_
    refine wp_lload rfl rfl ?_
    refine wp_lor rfl ?_
    refine wp_sipush rfl ?_
    refine wp_land rfl ?_
    exact wp_lret rfl rfl H
  · replace H := H.2 c1
    refine wp_iload rfl rfl ?_
    refine wp_iload rfl rfl ?_
    refine wp_icgt (tn := 69) rfl rfl (fun c2 => ?_) (fun c2 => ?_)
    · replace H := H.1 c2
      refine wp_lload rfl rfl ?_
      refine wp_lload rfl rfl ?_
      refine wp_lor rfl ?_
      refine wp_sipush rfl ?_
      refine wp_land rfl ?_
      exact wp_lret rfl rfl H
    · replace H := H.2 c2
      refine wp_aload rfl rfl ?_
      refine wp_iload rfl rfl ?_
      refine wp_iload rfl rfl ?_
      refine wp_isub rfl ?_
      have g3 := H.1
      replace H := H.2
      refine Wp.topI (y := (x2 - x7)) (w32_I g3) ?_
      refine wp_call (k := 192) (ρ2 := 1) (L2 := [vr 37, vi (x2 - x7)]) rfl rfl rfl (Nat.le_of_ble_eq_true rfl) (Nat.le_of_ble_eq_true rfl) (Nat.le_of_ble_eq_true rfl) (rcv_V rfl (congrArg Prod.fst (kf_37 X.1))) rfl ?_
      refine wp_aload rfl rfl ?_
      refine wp_iload rfl rfl ?_
      refine wp_call (k := 189) (ρ2 := 0) (L2 := [vr 37, vi (x2 - x7)]) rfl rfl rfl (Nat.le_of_ble_eq_true rfl) (Nat.le_of_ble_eq_true rfl) (Nat.le_of_ble_eq_true rfl) (rcv_V rfl (congrArg Prod.fst (kf_37 X.1))) rfl ?_
      refine wp_iload rfl rfl ?_
      refine wp_iflt (tn := 16) rfl rfl (fun c4 => ?_) (fun c4 => ?_)
      · replace H := H.1 c4
        refine wp_iconst rfl ?_
        refine wp_zret rfl rfl (by decide) ?_
        show Wp X _ 192 5 [vr 37, vi (x2 - x7)] [vi 0] _ _
        refine wp_ifeqT (tn := 17) rfl rfl (by decide) ?_
        refine wp_iconst rfl ?_
        refine wp_iret rfl rfl ?_
        show Wp X _ 246 37 [vr 57, vr 37, vi x2, vl x3, vu, vl x5, vu, vi x7, zx8] [vi 8] _ _
        refine wp_istore (L2 := [vr 57, vr 37, vi x2, vl x3, vu, vl x5, vu, vi x7, vi 8]) rfl (Nat.le_of_ble_eq_true rfl) rfl ?_
        refine wp_lload rfl rfl ?_
        refine wp_aload rfl rfl ?_
        refine wp_iload rfl rfl ?_
        refine wp_iload rfl rfl ?_
        refine wp_call (k := 239) (ρ2 := 0) (L2 := [vr 57, vi 8, vi x7]) rfl rfl rfl (Nat.le_of_ble_eq_true rfl) (Nat.le_of_ble_eq_true rfl) (Nat.le_of_ble_eq_true rfl) (rcv_V rfl (congrArg Prod.fst (kf_57 X.1))) rfl ?_
        refine wp_iload rfl rfl ?_
        refine wp_ifltF (tn := 19) rfl rfl (by decide) ?_
        refine wp_iload rfl rfl ?_
        refine wp_iconst rfl ?_
        refine wp_icgeF (tn := 19) rfl rfl (by decide) ?_
        refine wp_iload rfl rfl ?_
        refine wp_iflt (tn := 19) rfl rfl (fun c5 => ?_) (fun c5 => ?_)
        · replace H := H.1 c5
          refine wp_sipush rfl ?_
          refine wp_lret rfl rfl ?_
          show Wp X _ 246 48 [vr 57, vr 37, vi x2, vl x3, vu, vl x5, vu, vi x7, vi 8] [vl 0, vl x3] _ _
          refine wp_ladd rfl ?_
          refine wp_lstore (L2 := [vr 57, vr 37, vi x2, vl (w64 (x3 + 0)), vu, vl x5, vu, vi x7, vi 8]) rfl (Nat.le_of_ble_eq_true rfl) rfl ?_
          refine wp_lload rfl rfl ?_
          refine wp_aload rfl rfl ?_
          refine wp_iload rfl rfl ?_
          refine wp_iload rfl rfl ?_
          refine wp_call (k := 240) (ρ2 := 0) (L2 := [vr 57, vi 8, vi x7]) rfl rfl rfl (Nat.le_of_ble_eq_true rfl) (Nat.le_of_ble_eq_true rfl) (Nat.le_of_ble_eq_true rfl) (rcv_V rfl (congrArg Prod.fst (kf_57 X.1))) rfl ?_
          refine wp_iload rfl rfl ?_
          refine wp_ifltF (tn := 19) rfl rfl (by decide) ?_
          refine wp_iload rfl rfl ?_
          refine wp_iconst rfl ?_
          refine wp_icgeF (tn := 19) rfl rfl (by decide) ?_
          refine wp_iload rfl rfl ?_
          refine wp_ifltT (tn := 19) rfl rfl c5 ?_
          refine wp_sipush rfl ?_
          refine wp_lret rfl rfl ?_
          show Wp X _ 246 60 [vr 57, vr 37, vi x2, vl (w64 (x3 + 0)), vu, vl x5, vu, vi x7, vi 8] [vl 0, vl x5] _ _
          refine wp_ladd rfl ?_
          refine wp_lstore (L2 := [vr 57, vr 37, vi x2, vl (w64 (x3 + 0)), vu, vl (w64 (x5 + 0)), vu, vi x7, vi 8]) rfl (Nat.le_of_ble_eq_true rfl) rfl ?_
          have g6 := H.1
          replace H := H.2
          refine wp_iincR (L2 := [vr 57, vr 37, vi x2, vl (w64 (x3 + 0)), vu, vl (w64 (x5 + 0)), vu, vi (x7 + 1), vi 8]) rfl rfl g6 rfl ?_
          refine wp_goto (tn := 14) rfl rfl ?_
          exact H
        · replace H := H.2 c5
          refine wp_iload rfl rfl ?_
          refine wp_iconst rfl ?_
          refine wp_iclt (tn := 21) rfl rfl (fun c7 => ?_) (fun c7 => ?_)
          · replace H := H.1 c7
            refine wp_aload rfl rfl ?_
            refine wp_getR (r := 57) rfl (congrArg Prod.fst (kf_57 X.1)) rfl ?_
            refine wp_iload rfl rfl ?_
            refine wp_laload rfl (kf_58 X.1) (by decide) ?_
            refine wp_aload rfl rfl ?_
            refine wp_getR (r := 59) rfl (congrArg Prod.fst (kf_57 X.1)) rfl ?_
            refine wp_iload rfl rfl ?_
            refine wp_laload rfl (kf_60 X.1) ⟨c5, c7⟩ ?_
            refine wp_land rfl ?_
            refine wp_lret rfl rfl ?_
            show Wp X _ 246 48 [vr 57, vr 37, vi x2, vl x3, vu, vl x5, vu, vi x7, vi 8] [vl ((i64 (h 58 8) &&& i64 (h 60 x7)).toInt), vl x3] _ _
            refine wp_ladd rfl ?_
            refine wp_lstore (L2 := [vr 57, vr 37, vi x2, vl (w64 (x3 + ((i64 (h 58 8) &&& i64 (h 60 x7)).toInt))), vu, vl x5, vu, vi x7, vi 8]) rfl (Nat.le_of_ble_eq_true rfl) rfl ?_
            refine wp_lload rfl rfl ?_
            refine wp_aload rfl rfl ?_
            refine wp_iload rfl rfl ?_
            refine wp_iload rfl rfl ?_
            refine wp_call (k := 240) (ρ2 := 0) (L2 := [vr 57, vi 8, vi x7]) rfl rfl rfl (Nat.le_of_ble_eq_true rfl) (Nat.le_of_ble_eq_true rfl) (Nat.le_of_ble_eq_true rfl) (rcv_V rfl (congrArg Prod.fst (kf_57 X.1))) rfl ?_
            refine wp_iload rfl rfl ?_
            refine wp_ifltF (tn := 19) rfl rfl (by decide) ?_
            refine wp_iload rfl rfl ?_
            refine wp_iconst rfl ?_
            refine wp_icgeF (tn := 19) rfl rfl (by decide) ?_
            refine wp_iload rfl rfl ?_
            refine wp_ifltF (tn := 19) rfl rfl c5 ?_
            refine wp_iload rfl rfl ?_
            refine wp_iconst rfl ?_
            refine wp_icltT (tn := 21) rfl rfl c7 ?_
            refine wp_aload rfl rfl ?_
            refine wp_getR (r := 58) rfl (congrArg Prod.fst (kf_57 X.1)) rfl ?_
            refine wp_iload rfl rfl ?_
            refine wp_laload rfl (kf_59 X.1) (by decide) ?_
            refine wp_aload rfl rfl ?_
            refine wp_getR (r := 59) rfl (congrArg Prod.fst (kf_57 X.1)) rfl ?_
            refine wp_iload rfl rfl ?_
            refine wp_laload rfl (kf_60 X.1) ⟨c5, c7⟩ ?_
            refine wp_land rfl ?_
            refine wp_lret rfl rfl ?_
            show Wp X _ 246 60 [vr 57, vr 37, vi x2, vl (w64 (x3 + ((i64 (h 58 8) &&& i64 (h 60 x7)).toInt))), vu, vl x5, vu, vi x7, vi 8] [vl ((i64 (h 59 8) &&& i64 (h 60 x7)).toInt), vl x5] _ _
            refine wp_ladd rfl ?_
            refine wp_lstore (L2 := [vr 57, vr 37, vi x2, vl (w64 (x3 + ((i64 (h 58 8) &&& i64 (h 60 x7)).toInt))), vu, vl (w64 (x5 + ((i64 (h 59 8) &&& i64 (h 60 x7)).toInt))), vu, vi x7, vi 8]) rfl (Nat.le_of_ble_eq_true rfl) rfl ?_
            refine wp_iincR (L2 := [vr 57, vr 37, vi x2, vl (w64 (x3 + ((i64 (h 58 8) &&& i64 (h 60 x7)).toInt))), vu, vl (w64 (x5 + ((i64 (h 59 8) &&& i64 (h 60 x7)).toInt))), vu, vi (x7 + 1), vi 8]) rfl rfl (by clear H; unfold R32; omega) rfl ?_
            refine wp_goto (tn := 14) rfl rfl ?_
            exact H
          · replace H := H.2 c7
            refine wp_sipush rfl ?_
            refine wp_lret rfl rfl ?_
            show Wp X _ 246 48 [vr 57, vr 37, vi x2, vl x3, vu, vl x5, vu, vi x7, vi 8] [vl 0, vl x3] _ _
            refine wp_ladd rfl ?_
            refine wp_lstore (L2 := [vr 57, vr 37, vi x2, vl (w64 (x3 + 0)), vu, vl x5, vu, vi x7, vi 8]) rfl (Nat.le_of_ble_eq_true rfl) rfl ?_
            refine wp_lload rfl rfl ?_
            refine wp_aload rfl rfl ?_
            refine wp_iload rfl rfl ?_
            refine wp_iload rfl rfl ?_
            refine wp_call (k := 240) (ρ2 := 0) (L2 := [vr 57, vi 8, vi x7]) rfl rfl rfl (Nat.le_of_ble_eq_true rfl) (Nat.le_of_ble_eq_true rfl) (Nat.le_of_ble_eq_true rfl) (rcv_V rfl (congrArg Prod.fst (kf_57 X.1))) rfl ?_
            refine wp_iload rfl rfl ?_
            refine wp_ifltF (tn := 19) rfl rfl (by decide) ?_
            refine wp_iload rfl rfl ?_
            refine wp_iconst rfl ?_
            refine wp_icgeF (tn := 19) rfl rfl (by decide) ?_
            refine wp_iload rfl rfl ?_
            refine wp_ifltF (tn := 19) rfl rfl c5 ?_
            refine wp_iload rfl rfl ?_
            refine wp_iconst rfl ?_
            refine wp_icltF (tn := 21) rfl rfl c7 ?_
            refine wp_sipush rfl ?_
            refine wp_lret rfl rfl ?_
            show Wp X _ 246 60 [vr 57, vr 37, vi x2, vl (w64 (x3 + 0)), vu, vl x5, vu, vi x7, vi 8] [vl 0, vl x5] _ _
            refine wp_ladd rfl ?_
            refine wp_lstore (L2 := [vr 57, vr 37, vi x2, vl (w64 (x3 + 0)), vu, vl (w64 (x5 + 0)), vu, vi x7, vi 8]) rfl (Nat.le_of_ble_eq_true rfl) rfl ?_
            have g8 := H.1
            replace H := H.2
            refine wp_iincR (L2 := [vr 57, vr 37, vi x2, vl (w64 (x3 + 0)), vu, vl (w64 (x5 + 0)), vu, vi (x7 + 1), vi 8]) rfl rfl g8 rfl ?_
            refine wp_goto (tn := 14) rfl rfl ?_
            exact H
      · replace H := H.2 c4
        refine wp_iload rfl rfl ?_
        refine wp_aload rfl rfl ?_
        refine wp_getI (j := 6) rfl (congrArg Prod.fst (kf_37 X.1)) rfl ?_
        refine wp_icge (tn := 16) rfl rfl (fun c9 => ?_) (fun c9 => ?_)
        · replace H := H.1 c9
          refine wp_iconst rfl ?_
          refine wp_zret rfl rfl (by decide) ?_
          show Wp X _ 192 5 [vr 37, vi (x2 - x7)] [vi 0] _ _
          refine wp_ifeqT (tn := 17) rfl rfl (by decide) ?_
          refine wp_iconst rfl ?_
          refine wp_iret rfl rfl ?_
          show Wp X _ 246 37 [vr 57, vr 37, vi x2, vl x3, vu, vl x5, vu, vi x7, zx8] [vi 8] _ _
          refine wp_istore (L2 := [vr 57, vr 37, vi x2, vl x3, vu, vl x5, vu, vi x7, vi 8]) rfl (Nat.le_of_ble_eq_true rfl) rfl ?_
          refine wp_lload rfl rfl ?_
          refine wp_aload rfl rfl ?_
          refine wp_iload rfl rfl ?_
          refine wp_iload rfl rfl ?_
          refine wp_call (k := 239) (ρ2 := 0) (L2 := [vr 57, vi 8, vi x7]) rfl rfl rfl (Nat.le_of_ble_eq_true rfl) (Nat.le_of_ble_eq_true rfl) (Nat.le_of_ble_eq_true rfl) (rcv_V rfl (congrArg Prod.fst (kf_57 X.1))) rfl ?_
          refine wp_iload rfl rfl ?_
          refine wp_ifltF (tn := 19) rfl rfl (by decide) ?_
          refine wp_iload rfl rfl ?_
          refine wp_iconst rfl ?_
          refine wp_icgeF (tn := 19) rfl rfl (by decide) ?_
          refine wp_iload rfl rfl ?_
          refine wp_iflt (tn := 19) rfl rfl (fun c10 => ?_) (fun c10 => ?_)
          · replace H := H.1 c10
            refine wp_sipush rfl ?_
            refine wp_lret rfl rfl ?_
            show Wp X _ 246 48 [vr 57, vr 37, vi x2, vl x3, vu, vl x5, vu, vi x7, vi 8] [vl 0, vl x3] _ _
            refine wp_ladd rfl ?_
            refine wp_lstore (L2 := [vr 57, vr 37, vi x2, vl (w64 (x3 + 0)), vu, vl x5, vu, vi x7, vi 8]) rfl (Nat.le_of_ble_eq_true rfl) rfl ?_
            refine wp_lload rfl rfl ?_
            refine wp_aload rfl rfl ?_
            refine wp_iload rfl rfl ?_
            refine wp_iload rfl rfl ?_
            refine wp_call (k := 240) (ρ2 := 0) (L2 := [vr 57, vi 8, vi x7]) rfl rfl rfl (Nat.le_of_ble_eq_true rfl) (Nat.le_of_ble_eq_true rfl) (Nat.le_of_ble_eq_true rfl) (rcv_V rfl (congrArg Prod.fst (kf_57 X.1))) rfl ?_
            refine wp_iload rfl rfl ?_
            refine wp_ifltF (tn := 19) rfl rfl (by decide) ?_
            refine wp_iload rfl rfl ?_
            refine wp_iconst rfl ?_
            refine wp_icgeF (tn := 19) rfl rfl (by decide) ?_
            refine wp_iload rfl rfl ?_
            refine wp_ifltT (tn := 19) rfl rfl c10 ?_
            refine wp_sipush rfl ?_
            refine wp_lret rfl rfl ?_
            show Wp X _ 246 60 [vr 57, vr 37, vi x2, vl (w64 (x3 + 0)), vu, vl x5, vu, vi x7, vi 8] [vl 0, vl x5] _ _
            refine wp_ladd rfl ?_
            refine wp_lstore (L2 := [vr 57, vr 37, vi x2, vl (w64 (x3 + 0)), vu, vl (w64 (x5 + 0)), vu, vi x7, vi 8]) rfl (Nat.le_of_ble_eq_true rfl) rfl ?_
            have g11 := H.1
            replace H := H.2
            refine wp_iincR (L2 := [vr 57, vr 37, vi x2, vl (w64 (x3 + 0)), vu, vl (w64 (x5 + 0)), vu, vi (x7 + 1), vi 8]) rfl rfl g11 rfl ?_
            refine wp_goto (tn := 14) rfl rfl ?_
            exact H
          · replace H := H.2 c10
            refine wp_iload rfl rfl ?_
            refine wp_iconst rfl ?_
            refine wp_iclt (tn := 21) rfl rfl (fun c12 => ?_) (fun c12 => ?_)
            · replace H := H.1 c12
              refine wp_aload rfl rfl ?_
              refine wp_getR (r := 57) rfl (congrArg Prod.fst (kf_57 X.1)) rfl ?_
              refine wp_iload rfl rfl ?_
              refine wp_laload rfl (kf_58 X.1) (by decide) ?_
              refine wp_aload rfl rfl ?_
              refine wp_getR (r := 59) rfl (congrArg Prod.fst (kf_57 X.1)) rfl ?_
              refine wp_iload rfl rfl ?_
              refine wp_laload rfl (kf_60 X.1) ⟨c10, c12⟩ ?_
              refine wp_land rfl ?_
              refine wp_lret rfl rfl ?_
              show Wp X _ 246 48 [vr 57, vr 37, vi x2, vl x3, vu, vl x5, vu, vi x7, vi 8] [vl ((i64 (h 58 8) &&& i64 (h 60 x7)).toInt), vl x3] _ _
              refine wp_ladd rfl ?_
              refine wp_lstore (L2 := [vr 57, vr 37, vi x2, vl (w64 (x3 + ((i64 (h 58 8) &&& i64 (h 60 x7)).toInt))), vu, vl x5, vu, vi x7, vi 8]) rfl (Nat.le_of_ble_eq_true rfl) rfl ?_
              refine wp_lload rfl rfl ?_
              refine wp_aload rfl rfl ?_
              refine wp_iload rfl rfl ?_
              refine wp_iload rfl rfl ?_
              refine wp_call (k := 240) (ρ2 := 0) (L2 := [vr 57, vi 8, vi x7]) rfl rfl rfl (Nat.le_of_ble_eq_true rfl) (Nat.le_of_ble_eq_true rfl) (Nat.le_of_ble_eq_true rfl) (rcv_V rfl (congrArg Prod.fst (kf_57 X.1))) rfl ?_
              refine wp_iload rfl rfl ?_
              refine wp_ifltF (tn := 19) rfl rfl (by decide) ?_
              refine wp_iload rfl rfl ?_
              refine wp_iconst rfl ?_
              refine wp_icgeF (tn := 19) rfl rfl (by decide) ?_
              refine wp_iload rfl rfl ?_
              refine wp_ifltF (tn := 19) rfl rfl c10 ?_
              refine wp_iload rfl rfl ?_
              refine wp_iconst rfl ?_
              refine wp_icltT (tn := 21) rfl rfl c12 ?_
              refine wp_aload rfl rfl ?_
              refine wp_getR (r := 58) rfl (congrArg Prod.fst (kf_57 X.1)) rfl ?_
              refine wp_iload rfl rfl ?_
              refine wp_laload rfl (kf_59 X.1) (by decide) ?_
              refine wp_aload rfl rfl ?_
              refine wp_getR (r := 59) rfl (congrArg Prod.fst (kf_57 X.1)) rfl ?_
              refine wp_iload rfl rfl ?_
              refine wp_laload rfl (kf_60 X.1) ⟨c10, c12⟩ ?_
              refine wp_land rfl ?_
              refine wp_lret rfl rfl ?_
              show Wp X _ 246 60 [vr 57, vr 37, vi x2, vl (w64 (x3 + ((i64 (h 58 8) &&& i64 (h 60 x7)).toInt))), vu, vl x5, vu, vi x7, vi 8] [vl ((i64 (h 59 8) &&& i64 (h 60 x7)).toInt), vl x5] _ _
              refine wp_ladd rfl ?_
              refine wp_lstore (L2 := [vr 57, vr 37, vi x2, vl (w64 (x3 + ((i64 (h 58 8) &&& i64 (h 60 x7)).toInt))), vu, vl (w64 (x5 + ((i64 (h 59 8) &&& i64 (h 60 x7)).toInt))), vu, vi x7, vi 8]) rfl (Nat.le_of_ble_eq_true rfl) rfl ?_
              refine wp_iincR (L2 := [vr 57, vr 37, vi x2, vl (w64 (x3 + ((i64 (h 58 8) &&& i64 (h 60 x7)).toInt))), vu, vl (w64 (x5 + ((i64 (h 59 8) &&& i64 (h 60 x7)).toInt))), vu, vi (x7 + 1), vi 8]) rfl rfl (by clear H; unfold R32; omega) rfl ?_
              refine wp_goto (tn := 14) rfl rfl ?_
              exact H
            · replace H := H.2 c12
              refine wp_sipush rfl ?_
              refine wp_lret rfl rfl ?_
              show Wp X _ 246 48 [vr 57, vr 37, vi x2, vl x3, vu, vl x5, vu, vi x7, vi 8] [vl 0, vl x3] _ _
              refine wp_ladd rfl ?_
              refine wp_lstore (L2 := [vr 57, vr 37, vi x2, vl (w64 (x3 + 0)), vu, vl x5, vu, vi x7, vi 8]) rfl (Nat.le_of_ble_eq_true rfl) rfl ?_
              refine wp_lload rfl rfl ?_
              refine wp_aload rfl rfl ?_
              refine wp_iload rfl rfl ?_
              refine wp_iload rfl rfl ?_
              refine wp_call (k := 240) (ρ2 := 0) (L2 := [vr 57, vi 8, vi x7]) rfl rfl rfl (Nat.le_of_ble_eq_true rfl) (Nat.le_of_ble_eq_true rfl) (Nat.le_of_ble_eq_true rfl) (rcv_V rfl (congrArg Prod.fst (kf_57 X.1))) rfl ?_
              refine wp_iload rfl rfl ?_
              refine wp_ifltF (tn := 19) rfl rfl (by decide) ?_
              refine wp_iload rfl rfl ?_
              refine wp_iconst rfl ?_
              refine wp_icgeF (tn := 19) rfl rfl (by decide) ?_
              refine wp_iload rfl rfl ?_
              refine wp_ifltF (tn := 19) rfl rfl c10 ?_
              refine wp_iload rfl rfl ?_
              refine wp_iconst rfl ?_
              refine wp_icltF (tn := 21) rfl rfl c12 ?_
              refine wp_sipush rfl ?_
              refine wp_lret rfl rfl ?_
              show Wp X _ 246 60 [vr 57, vr 37, vi x2, vl (w64 (x3 + 0)), vu, vl x5, vu, vi x7, vi 8] [vl 0, vl x5] _ _
              refine wp_ladd rfl ?_
              refine wp_lstore (L2 := [vr 57, vr 37, vi x2, vl (w64 (x3 + 0)), vu, vl (w64 (x5 + 0)), vu, vi x7, vi 8]) rfl (Nat.le_of_ble_eq_true rfl) rfl ?_
              have g13 := H.1
              replace H := H.2
              refine wp_iincR (L2 := [vr 57, vr 37, vi x2, vl (w64 (x3 + 0)), vu, vl (w64 (x5 + 0)), vu, vi (x7 + 1), vi 8]) rfl rfl g13 rfl ?_
              refine wp_goto (tn := 14) rfl rfl ?_
              exact H
        · replace H := H.2 c9
          refine wp_iconst rfl ?_
          refine wp_goto (tn := 17) rfl rfl ?_
          refine wp_zret rfl rfl (by decide) ?_
          show Wp X _ 192 5 [vr 37, vi (x2 - x7)] [vi 1] _ _
          refine wp_ifeqF (tn := 17) rfl rfl (by decide) ?_
          refine wp_aload rfl rfl ?_
          refine wp_getR (r := 39) rfl (congrArg Prod.fst (kf_37 X.1)) rfl ?_
          refine wp_iload rfl rfl ?_
          have g14 := H.1
          replace H := H.2
          refine wp_iaload rfl (kf_40 X.1) g14 ?_
          refine wp_goto (tn := 19) rfl rfl ?_
          refine wp_iret rfl rfl ?_
          show Wp X _ 246 37 [vr 57, vr 37, vi x2, vl x3, vu, vl x5, vu, vi x7, zx8] [vi (h 40 (x2 - x7))] _ _
          refine wp_istore (L2 := [vr 57, vr 37, vi x2, vl x3, vu, vl x5, vu, vi x7, vi (h 40 (x2 - x7))]) rfl (Nat.le_of_ble_eq_true rfl) rfl ?_
          refine wp_lload rfl rfl ?_
          refine wp_aload rfl rfl ?_
          refine wp_iload rfl rfl ?_
          refine wp_iload rfl rfl ?_
          refine wp_call (k := 239) (ρ2 := 0) (L2 := [vr 57, vi (h 40 (x2 - x7)), vi x7]) rfl rfl rfl (Nat.le_of_ble_eq_true rfl) (Nat.le_of_ble_eq_true rfl) (Nat.le_of_ble_eq_true rfl) (rcv_V rfl (congrArg Prod.fst (kf_57 X.1))) rfl ?_
          refine wp_iload rfl rfl ?_
          refine wp_iflt (tn := 19) rfl rfl (fun c15 => ?_) (fun c15 => ?_)
          · replace H := H.1 c15
            refine wp_sipush rfl ?_
            refine wp_lret rfl rfl ?_
            show Wp X _ 246 48 [vr 57, vr 37, vi x2, vl x3, vu, vl x5, vu, vi x7, vi (h 40 (x2 - x7))] [vl 0, vl x3] _ _
            refine wp_ladd rfl ?_
            refine wp_lstore (L2 := [vr 57, vr 37, vi x2, vl (w64 (x3 + 0)), vu, vl x5, vu, vi x7, vi (h 40 (x2 - x7))]) rfl (Nat.le_of_ble_eq_true rfl) rfl ?_
            refine wp_lload rfl rfl ?_
            refine wp_aload rfl rfl ?_
            refine wp_iload rfl rfl ?_
            refine wp_iload rfl rfl ?_
            refine wp_call (k := 240) (ρ2 := 0) (L2 := [vr 57, vi (h 40 (x2 - x7)), vi x7]) rfl rfl rfl (Nat.le_of_ble_eq_true rfl) (Nat.le_of_ble_eq_true rfl) (Nat.le_of_ble_eq_true rfl) (rcv_V rfl (congrArg Prod.fst (kf_57 X.1))) rfl ?_
            refine wp_iload rfl rfl ?_
            refine wp_ifltT (tn := 19) rfl rfl c15 ?_
            refine wp_sipush rfl ?_
            refine wp_lret rfl rfl ?_
            show Wp X _ 246 60 [vr 57, vr 37, vi x2, vl (w64 (x3 + 0)), vu, vl x5, vu, vi x7, vi (h 40 (x2 - x7))] [vl 0, vl x5] _ _
            refine wp_ladd rfl ?_
            refine wp_lstore (L2 := [vr 57, vr 37, vi x2, vl (w64 (x3 + 0)), vu, vl (w64 (x5 + 0)), vu, vi x7, vi (h 40 (x2 - x7))]) rfl (Nat.le_of_ble_eq_true rfl) rfl ?_
            have g16 := H.1
            replace H := H.2
            refine wp_iincR (L2 := [vr 57, vr 37, vi x2, vl (w64 (x3 + 0)), vu, vl (w64 (x5 + 0)), vu, vi (x7 + 1), vi (h 40 (x2 - x7))]) rfl rfl g16 rfl ?_
            refine wp_goto (tn := 14) rfl rfl ?_
            exact H
          · replace H := H.2 c15
            refine wp_iload rfl rfl ?_
            refine wp_iconst rfl ?_
            refine wp_icge (tn := 19) rfl rfl (fun c17 => ?_) (fun c17 => ?_)
            · replace H := H.1 c17
              refine wp_sipush rfl ?_
              refine wp_lret rfl rfl ?_
              show Wp X _ 246 48 [vr 57, vr 37, vi x2, vl x3, vu, vl x5, vu, vi x7, vi (h 40 (x2 - x7))] [vl 0, vl x3] _ _
              refine wp_ladd rfl ?_
              refine wp_lstore (L2 := [vr 57, vr 37, vi x2, vl (w64 (x3 + 0)), vu, vl x5, vu, vi x7, vi (h 40 (x2 - x7))]) rfl (Nat.le_of_ble_eq_true rfl) rfl ?_
              refine wp_lload rfl rfl ?_
              refine wp_aload rfl rfl ?_
              refine wp_iload rfl rfl ?_
              refine wp_iload rfl rfl ?_
              refine wp_call (k := 240) (ρ2 := 0) (L2 := [vr 57, vi (h 40 (x2 - x7)), vi x7]) rfl rfl rfl (Nat.le_of_ble_eq_true rfl) (Nat.le_of_ble_eq_true rfl) (Nat.le_of_ble_eq_true rfl) (rcv_V rfl (congrArg Prod.fst (kf_57 X.1))) rfl ?_
              refine wp_iload rfl rfl ?_
              refine wp_ifltF (tn := 19) rfl rfl c15 ?_
              refine wp_iload rfl rfl ?_
              refine wp_iconst rfl ?_
              refine wp_icgeT (tn := 19) rfl rfl c17 ?_
              refine wp_sipush rfl ?_
              refine wp_lret rfl rfl ?_
              show Wp X _ 246 60 [vr 57, vr 37, vi x2, vl (w64 (x3 + 0)), vu, vl x5, vu, vi x7, vi (h 40 (x2 - x7))] [vl 0, vl x5] _ _
              refine wp_ladd rfl ?_
              refine wp_lstore (L2 := [vr 57, vr 37, vi x2, vl (w64 (x3 + 0)), vu, vl (w64 (x5 + 0)), vu, vi x7, vi (h 40 (x2 - x7))]) rfl (Nat.le_of_ble_eq_true rfl) rfl ?_
              have g18 := H.1
              replace H := H.2
              refine wp_iincR (L2 := [vr 57, vr 37, vi x2, vl (w64 (x3 + 0)), vu, vl (w64 (x5 + 0)), vu, vi (x7 + 1), vi (h 40 (x2 - x7))]) rfl rfl g18 rfl ?_
              refine wp_goto (tn := 14) rfl rfl ?_
              exact H
            · replace H := H.2 c17
              refine wp_iload rfl rfl ?_
              refine wp_iflt (tn := 19) rfl rfl (fun c19 => ?_) (fun c19 => ?_)
              · replace H := H.1 c19
                refine wp_sipush rfl ?_
                refine wp_lret rfl rfl ?_
                show Wp X _ 246 48 [vr 57, vr 37, vi x2, vl x3, vu, vl x5, vu, vi x7, vi (h 40 (x2 - x7))] [vl 0, vl x3] _ _
                refine wp_ladd rfl ?_
                refine wp_lstore (L2 := [vr 57, vr 37, vi x2, vl (w64 (x3 + 0)), vu, vl x5, vu, vi x7, vi (h 40 (x2 - x7))]) rfl (Nat.le_of_ble_eq_true rfl) rfl ?_
                refine wp_lload rfl rfl ?_
                refine wp_aload rfl rfl ?_
                refine wp_iload rfl rfl ?_
                refine wp_iload rfl rfl ?_
                refine wp_call (k := 240) (ρ2 := 0) (L2 := [vr 57, vi (h 40 (x2 - x7)), vi x7]) rfl rfl rfl (Nat.le_of_ble_eq_true rfl) (Nat.le_of_ble_eq_true rfl) (Nat.le_of_ble_eq_true rfl) (rcv_V rfl (congrArg Prod.fst (kf_57 X.1))) rfl ?_
                refine wp_iload rfl rfl ?_
                refine wp_ifltF (tn := 19) rfl rfl c15 ?_
                refine wp_iload rfl rfl ?_
                refine wp_iconst rfl ?_
                refine wp_icgeF (tn := 19) rfl rfl c17 ?_
                refine wp_iload rfl rfl ?_
                refine wp_ifltT (tn := 19) rfl rfl c19 ?_
                refine wp_sipush rfl ?_
                refine wp_lret rfl rfl ?_
                show Wp X _ 246 60 [vr 57, vr 37, vi x2, vl (w64 (x3 + 0)), vu, vl x5, vu, vi x7, vi (h 40 (x2 - x7))] [vl 0, vl x5] _ _
                refine wp_ladd rfl ?_
                refine wp_lstore (L2 := [vr 57, vr 37, vi x2, vl (w64 (x3 + 0)), vu, vl (w64 (x5 + 0)), vu, vi x7, vi (h 40 (x2 - x7))]) rfl (Nat.le_of_ble_eq_true rfl) rfl ?_
                have g20 := H.1
                replace H := H.2
                refine wp_iincR (L2 := [vr 57, vr 37, vi x2, vl (w64 (x3 + 0)), vu, vl (w64 (x5 + 0)), vu, vi (x7 + 1), vi (h 40 (x2 - x7))]) rfl rfl g20 rfl ?_
                refine wp_goto (tn := 14) rfl rfl ?_
                exact H
              · replace H := H.2 c19
                refine wp_iload rfl rfl ?_
                refine wp_iconst rfl ?_
                refine wp_iclt (tn := 21) rfl rfl (fun c21 => ?_) (fun c21 => ?_)
                · replace H := H.1 c21
                  refine wp_aload rfl rfl ?_
                  refine wp_getR (r := 57) rfl (congrArg Prod.fst (kf_57 X.1)) rfl ?_
                  refine wp_iload rfl rfl ?_
                  refine wp_laload rfl (kf_58 X.1) ⟨c15, c17⟩ ?_
                  refine wp_aload rfl rfl ?_
                  refine wp_getR (r := 59) rfl (congrArg Prod.fst (kf_57 X.1)) rfl ?_
                  refine wp_iload rfl rfl ?_
                  refine wp_laload rfl (kf_60 X.1) ⟨c19, c21⟩ ?_
                  refine wp_land rfl ?_
                  refine wp_lret rfl rfl ?_
                  show Wp X _ 246 48 [vr 57, vr 37, vi x2, vl x3, vu, vl x5, vu, vi x7, vi (h 40 (x2 - x7))] [vl ((i64 (h 58 (h 40 (x2 - x7))) &&& i64 (h 60 x7)).toInt), vl x3] _ _
                  refine wp_ladd rfl ?_
                  refine wp_lstore (L2 := [vr 57, vr 37, vi x2, vl (w64 (x3 + ((i64 (h 58 (h 40 (x2 - x7))) &&& i64 (h 60 x7)).toInt))), vu, vl x5, vu, vi x7, vi (h 40 (x2 - x7))]) rfl (Nat.le_of_ble_eq_true rfl) rfl ?_
                  refine wp_lload rfl rfl ?_
                  refine wp_aload rfl rfl ?_
                  refine wp_iload rfl rfl ?_
                  refine wp_iload rfl rfl ?_
                  refine wp_call (k := 240) (ρ2 := 0) (L2 := [vr 57, vi (h 40 (x2 - x7)), vi x7]) rfl rfl rfl (Nat.le_of_ble_eq_true rfl) (Nat.le_of_ble_eq_true rfl) (Nat.le_of_ble_eq_true rfl) (rcv_V rfl (congrArg Prod.fst (kf_57 X.1))) rfl ?_
                  refine wp_iload rfl rfl ?_
                  refine wp_ifltF (tn := 19) rfl rfl c15 ?_
                  refine wp_iload rfl rfl ?_
                  refine wp_iconst rfl ?_
                  refine wp_icgeF (tn := 19) rfl rfl c17 ?_
                  refine wp_iload rfl rfl ?_
                  refine wp_ifltF (tn := 19) rfl rfl c19 ?_
                  refine wp_iload rfl rfl ?_
                  refine wp_iconst rfl ?_
                  refine wp_icltT (tn := 21) rfl rfl c21 ?_
                  refine wp_aload rfl rfl ?_
                  refine wp_getR (r := 58) rfl (congrArg Prod.fst (kf_57 X.1)) rfl ?_
                  refine wp_iload rfl rfl ?_
                  refine wp_laload rfl (kf_59 X.1) ⟨c15, c17⟩ ?_
                  refine wp_aload rfl rfl ?_
                  refine wp_getR (r := 59) rfl (congrArg Prod.fst (kf_57 X.1)) rfl ?_
                  refine wp_iload rfl rfl ?_
                  refine wp_laload rfl (kf_60 X.1) ⟨c19, c21⟩ ?_
                  refine wp_land rfl ?_
                  refine wp_lret rfl rfl ?_
                  show Wp X _ 246 60 [vr 57, vr 37, vi x2, vl (w64 (x3 + ((i64 (h 58 (h 40 (x2 - x7))) &&& i64 (h 60 x7)).toInt))), vu, vl x5, vu, vi x7, vi (h 40 (x2 - x7))] [vl ((i64 (h 59 (h 40 (x2 - x7))) &&& i64 (h 60 x7)).toInt), vl x5] _ _
                  refine wp_ladd rfl ?_
                  refine wp_lstore (L2 := [vr 57, vr 37, vi x2, vl (w64 (x3 + ((i64 (h 58 (h 40 (x2 - x7))) &&& i64 (h 60 x7)).toInt))), vu, vl (w64 (x5 + ((i64 (h 59 (h 40 (x2 - x7))) &&& i64 (h 60 x7)).toInt))), vu, vi x7, vi (h 40 (x2 - x7))]) rfl (Nat.le_of_ble_eq_true rfl) rfl ?_
                  refine wp_iincR (L2 := [vr 57, vr 37, vi x2, vl (w64 (x3 + ((i64 (h 58 (h 40 (x2 - x7))) &&& i64 (h 60 x7)).toInt))), vu, vl (w64 (x5 + ((i64 (h 59 (h 40 (x2 - x7))) &&& i64 (h 60 x7)).toInt))), vu, vi (x7 + 1), vi (h 40 (x2 - x7))]) rfl rfl (by clear H; unfold R32; omega) rfl ?_
                  refine wp_goto (tn := 14) rfl rfl ?_
                  exact H
                · replace H := H.2 c21
                  refine wp_sipush rfl ?_
                  refine wp_lret rfl rfl ?_
                  show Wp X _ 246 48 [vr 57, vr 37, vi x2, vl x3, vu, vl x5, vu, vi x7, vi (h 40 (x2 - x7))] [vl 0, vl x3] _ _
                  refine wp_ladd rfl ?_
                  refine wp_lstore (L2 := [vr 57, vr 37, vi x2, vl (w64 (x3 + 0)), vu, vl x5, vu, vi x7, vi (h 40 (x2 - x7))]) rfl (Nat.le_of_ble_eq_true rfl) rfl ?_
                  refine wp_lload rfl rfl ?_
                  refine wp_aload rfl rfl ?_
                  refine wp_iload rfl rfl ?_
                  refine wp_iload rfl rfl ?_
                  refine wp_call (k := 240) (ρ2 := 0) (L2 := [vr 57, vi (h 40 (x2 - x7)), vi x7]) rfl rfl rfl (Nat.le_of_ble_eq_true rfl) (Nat.le_of_ble_eq_true rfl) (Nat.le_of_ble_eq_true rfl) (rcv_V rfl (congrArg Prod.fst (kf_57 X.1))) rfl ?_
                  refine wp_iload rfl rfl ?_
                  refine wp_ifltF (tn := 19) rfl rfl c15 ?_
                  refine wp_iload rfl rfl ?_
                  refine wp_iconst rfl ?_
                  refine wp_icgeF (tn := 19) rfl rfl c17 ?_
                  refine wp_iload rfl rfl ?_
                  refine wp_ifltF (tn := 19) rfl rfl c19 ?_
                  refine wp_iload rfl rfl ?_
                  refine wp_iconst rfl ?_
                  refine wp_icltF (tn := 21) rfl rfl c21 ?_
                  refine wp_sipush rfl ?_
                  refine wp_lret rfl rfl ?_
                  show Wp X _ 246 60 [vr 57, vr 37, vi x2, vl (w64 (x3 + 0)), vu, vl x5, vu, vi x7, vi (h 40 (x2 - x7))] [vl 0, vl x5] _ _
                  refine wp_ladd rfl ?_
                  refine wp_lstore (L2 := [vr 57, vr 37, vi x2, vl (w64 (x3 + 0)), vu, vl (w64 (x5 + 0)), vu, vi x7, vi (h 40 (x2 - x7))]) rfl (Nat.le_of_ble_eq_true rfl) rfl ?_
                  have g22 := H.1
                  replace H := H.2
                  refine wp_iincR (L2 := [vr 57, vr 37, vi x2, vl (w64 (x3 + 0)), vu, vl (w64 (x5 + 0)), vu, vi (x7 + 1), vi (h 40 (x2 - x7))]) rfl rfl g22 rfl ?_
                  refine wp_goto (tn := 14) rfl rfl ?_
                  exact H
/-- ZoneRules.reachedAt(L$Row;I)J, from 0 -/
theorem S246_57_62_0 {X : Nat × (Int → Int)} {h : HP} {Q : bQ} (x2 : Int) (H : Wp X 2 246 14 [vr 57, vr 62, vi x2, vl (h 57 3), vu, vl (h 57 3), vu, vi 0, vu] [] h Q) : Wp X 2 246 0 [vr 57, vr 62, vi x2, vu, vu, vu, vu, vu, vu] [] h Q := by
  refine wp_aload rfl rfl ?_
  refine wp_getL (j := 3) rfl (congrArg Prod.fst (kf_57 X.1)) rfl ?_
  refine wp_lstore (L2 := [vr 57, vr 62, vi x2, vl (h 57 3), vu, vu, vu, vu, vu]) rfl (Nat.le_of_ble_eq_true rfl) rfl ?_
  refine wp_aload rfl rfl ?_
  refine wp_getL (j := 3) rfl (congrArg Prod.fst (kf_57 X.1)) rfl ?_
  refine wp_lstore (L2 := [vr 57, vr 62, vi x2, vl (h 57 3), vu, vl (h 57 3), vu, vu, vu]) rfl (Nat.le_of_ble_eq_true rfl) rfl ?_
  refine wp_iconst rfl ?_
  refine wp_istore (L2 := [vr 57, vr 62, vi x2, vl (h 57 3), vu, vl (h 57 3), vu, vi 0, vu]) rfl (Nat.le_of_ble_eq_true rfl) rfl ?_
  exact H
/-- ZoneRules.reachedAt(L$Row;I)J, from 14 -/
theorem S246_57_62_14 {X : Nat × (Int → Int)} {h : HP} {Q : bQ} (x2 : Int) (x3 : Int) (x5 : Int) (x7 : Int) (zx8 : aV) (H : (((h 57 4) ≤ x7 → Q (some (vl ((i64 ((i64 x3 ||| i64 x5).toInt) &&& i64 (-9187201950435737472)).toInt))) h) ∧ (x7 < (h 57 4) → ((x2 < x7 → Q (some (vl ((i64 ((i64 x3 ||| i64 x5).toInt) &&& i64 (-9187201950435737472)).toInt))) h) ∧ (x7 ≤ x2 → ((R32 (x2 - x7)) ∧ (((x2 - x7) < 0 → ((x7 < 0 → ((R32 (x7 + 1)) ∧ Wp X 2 246 14 [vr 57, vr 62, vi x2, vl (w64 (x3 + 0)), vu, vl (w64 (x5 + 0)), vu, vi (x7 + 1), vi 8] [] h Q)) ∧ (0 ≤ x7 → ((x7 < 5 → Wp X 2 246 14 [vr 57, vr 62, vi x2, vl (w64 (x3 + ((i64 (h 58 8) &&& i64 (h 60 x7)).toInt))), vu, vl (w64 (x5 + ((i64 (h 59 8) &&& i64 (h 60 x7)).toInt))), vu, vi (x7 + 1), vi 8] [] h Q) ∧ (5 ≤ x7 → ((R32 (x7 + 1)) ∧ Wp X 2 246 14 [vr 57, vr 62, vi x2, vl (w64 (x3 + 0)), vu, vl (w64 (x5 + 0)), vu, vi (x7 + 1), vi 8] [] h Q)))))) ∧ (0 ≤ (x2 - x7) → (((h 62 6) ≤ (x2 - x7) → ((x7 < 0 → ((R32 (x7 + 1)) ∧ Wp X 2 246 14 [vr 57, vr 62, vi x2, vl (w64 (x3 + 0)), vu, vl (w64 (x5 + 0)), vu, vi (x7 + 1), vi 8] [] h Q)) ∧ (0 ≤ x7 → ((x7 < 5 → Wp X 2 246 14 [vr 57, vr 62, vi x2, vl (w64 (x3 + ((i64 (h 58 8) &&& i64 (h 60 x7)).toInt))), vu, vl (w64 (x5 + ((i64 (h 59 8) &&& i64 (h 60 x7)).toInt))), vu, vi (x7 + 1), vi 8] [] h Q) ∧ (5 ≤ x7 → ((R32 (x7 + 1)) ∧ Wp X 2 246 14 [vr 57, vr 62, vi x2, vl (w64 (x3 + 0)), vu, vl (w64 (x5 + 0)), vu, vi (x7 + 1), vi 8] [] h Q)))))) ∧ ((x2 - x7) < (h 62 6) → ((0 ≤ (x2 - x7) ∧ (x2 - x7) < 20) ∧ (((h 65 (x2 - x7)) < 0 → ((R32 (x7 + 1)) ∧ Wp X 2 246 14 [vr 57, vr 62, vi x2, vl (w64 (x3 + 0)), vu, vl (w64 (x5 + 0)), vu, vi (x7 + 1), vi (h 65 (x2 - x7))] [] h Q)) ∧ (0 ≤ (h 65 (x2 - x7)) → ((9 ≤ (h 65 (x2 - x7)) → ((R32 (x7 + 1)) ∧ Wp X 2 246 14 [vr 57, vr 62, vi x2, vl (w64 (x3 + 0)), vu, vl (w64 (x5 + 0)), vu, vi (x7 + 1), vi (h 65 (x2 - x7))] [] h Q)) ∧ ((h 65 (x2 - x7)) < 9 → ((x7 < 0 → ((R32 (x7 + 1)) ∧ Wp X 2 246 14 [vr 57, vr 62, vi x2, vl (w64 (x3 + 0)), vu, vl (w64 (x5 + 0)), vu, vi (x7 + 1), vi (h 65 (x2 - x7))] [] h Q)) ∧ (0 ≤ x7 → ((x7 < 5 → Wp X 2 246 14 [vr 57, vr 62, vi x2, vl (w64 (x3 + ((i64 (h 58 (h 65 (x2 - x7))) &&& i64 (h 60 x7)).toInt))), vu, vl (w64 (x5 + ((i64 (h 59 (h 65 (x2 - x7))) &&& i64 (h 60 x7)).toInt))), vu, vi (x7 + 1), vi (h 65 (x2 - x7))] [] h Q) ∧ (5 ≤ x7 → ((R32 (x7 + 1)) ∧ Wp X 2 246 14 [vr 57, vr 62, vi x2, vl (w64 (x3 + 0)), vu, vl (w64 (x5 + 0)), vu, vi (x7 + 1), vi (h 65 (x2 - x7))] [] h Q)))))))))))))))))))) : Wp X 2 246 14 [vr 57, vr 62, vi x2, vl x3, vu, vl x5, vu, vi x7, zx8] [] h Q := by
  refine wp_iload rfl rfl ?_
  refine wp_aload rfl rfl ?_
  refine wp_getI (j := 4) rfl (congrArg Prod.fst (kf_57 X.1)) rfl ?_
  refine wp_icge (tn := 69) rfl rfl (fun c1 => ?_) (fun c1 => ?_)
  · replace H := H.1 c1
    refine wp_lload rfl rfl ?_
    refine wp_lload rfl rfl ?_
    refine wp_lor rfl ?_
    refine wp_sipush rfl ?_
    refine wp_land rfl ?_
    exact wp_lret rfl rfl H
  · replace H := H.2 c1
    refine wp_iload rfl rfl ?_
    refine wp_iload rfl rfl ?_
    refine wp_icgt (tn := 69) rfl rfl (fun c2 => ?_) (fun c2 => ?_)
    · replace H := H.1 c2
      refine wp_lload rfl rfl ?_
      refine wp_lload rfl rfl ?_
      refine wp_lor rfl ?_
      refine wp_sipush rfl ?_
      refine wp_land rfl ?_
      exact wp_lret rfl rfl H
    · replace H := H.2 c2
      refine wp_aload rfl rfl ?_
      refine wp_iload rfl rfl ?_
      refine wp_iload rfl rfl ?_
      refine wp_isub rfl ?_
      have g3 := H.1
      replace H := H.2
      refine Wp.topI (y := (x2 - x7)) (w32_I g3) ?_
      refine wp_call (k := 192) (ρ2 := 1) (L2 := [vr 62, vi (x2 - x7)]) rfl rfl rfl (Nat.le_of_ble_eq_true rfl) (Nat.le_of_ble_eq_true rfl) (Nat.le_of_ble_eq_true rfl) (rcv_V rfl (congrArg Prod.fst (kf_62 X.1))) rfl ?_
      refine wp_aload rfl rfl ?_
      refine wp_iload rfl rfl ?_
      refine wp_call (k := 189) (ρ2 := 0) (L2 := [vr 62, vi (x2 - x7)]) rfl rfl rfl (Nat.le_of_ble_eq_true rfl) (Nat.le_of_ble_eq_true rfl) (Nat.le_of_ble_eq_true rfl) (rcv_V rfl (congrArg Prod.fst (kf_62 X.1))) rfl ?_
      refine wp_iload rfl rfl ?_
      refine wp_iflt (tn := 16) rfl rfl (fun c4 => ?_) (fun c4 => ?_)
      · replace H := H.1 c4
        refine wp_iconst rfl ?_
        refine wp_zret rfl rfl (by decide) ?_
        show Wp X _ 192 5 [vr 62, vi (x2 - x7)] [vi 0] _ _
        refine wp_ifeqT (tn := 17) rfl rfl (by decide) ?_
        refine wp_iconst rfl ?_
        refine wp_iret rfl rfl ?_
        show Wp X _ 246 37 [vr 57, vr 62, vi x2, vl x3, vu, vl x5, vu, vi x7, zx8] [vi 8] _ _
        refine wp_istore (L2 := [vr 57, vr 62, vi x2, vl x3, vu, vl x5, vu, vi x7, vi 8]) rfl (Nat.le_of_ble_eq_true rfl) rfl ?_
        refine wp_lload rfl rfl ?_
        refine wp_aload rfl rfl ?_
        refine wp_iload rfl rfl ?_
        refine wp_iload rfl rfl ?_
        refine wp_call (k := 239) (ρ2 := 0) (L2 := [vr 57, vi 8, vi x7]) rfl rfl rfl (Nat.le_of_ble_eq_true rfl) (Nat.le_of_ble_eq_true rfl) (Nat.le_of_ble_eq_true rfl) (rcv_V rfl (congrArg Prod.fst (kf_57 X.1))) rfl ?_
        refine wp_iload rfl rfl ?_
        refine wp_ifltF (tn := 19) rfl rfl (by decide) ?_
        refine wp_iload rfl rfl ?_
        refine wp_iconst rfl ?_
        refine wp_icgeF (tn := 19) rfl rfl (by decide) ?_
        refine wp_iload rfl rfl ?_
        refine wp_iflt (tn := 19) rfl rfl (fun c5 => ?_) (fun c5 => ?_)
        · replace H := H.1 c5
          refine wp_sipush rfl ?_
          refine wp_lret rfl rfl ?_
          show Wp X _ 246 48 [vr 57, vr 62, vi x2, vl x3, vu, vl x5, vu, vi x7, vi 8] [vl 0, vl x3] _ _
          refine wp_ladd rfl ?_
          refine wp_lstore (L2 := [vr 57, vr 62, vi x2, vl (w64 (x3 + 0)), vu, vl x5, vu, vi x7, vi 8]) rfl (Nat.le_of_ble_eq_true rfl) rfl ?_
          refine wp_lload rfl rfl ?_
          refine wp_aload rfl rfl ?_
          refine wp_iload rfl rfl ?_
          refine wp_iload rfl rfl ?_
          refine wp_call (k := 240) (ρ2 := 0) (L2 := [vr 57, vi 8, vi x7]) rfl rfl rfl (Nat.le_of_ble_eq_true rfl) (Nat.le_of_ble_eq_true rfl) (Nat.le_of_ble_eq_true rfl) (rcv_V rfl (congrArg Prod.fst (kf_57 X.1))) rfl ?_
          refine wp_iload rfl rfl ?_
          refine wp_ifltF (tn := 19) rfl rfl (by decide) ?_
          refine wp_iload rfl rfl ?_
          refine wp_iconst rfl ?_
          refine wp_icgeF (tn := 19) rfl rfl (by decide) ?_
          refine wp_iload rfl rfl ?_
          refine wp_ifltT (tn := 19) rfl rfl c5 ?_
          refine wp_sipush rfl ?_
          refine wp_lret rfl rfl ?_
          show Wp X _ 246 60 [vr 57, vr 62, vi x2, vl (w64 (x3 + 0)), vu, vl x5, vu, vi x7, vi 8] [vl 0, vl x5] _ _
          refine wp_ladd rfl ?_
          refine wp_lstore (L2 := [vr 57, vr 62, vi x2, vl (w64 (x3 + 0)), vu, vl (w64 (x5 + 0)), vu, vi x7, vi 8]) rfl (Nat.le_of_ble_eq_true rfl) rfl ?_
          have g6 := H.1
          replace H := H.2
          refine wp_iincR (L2 := [vr 57, vr 62, vi x2, vl (w64 (x3 + 0)), vu, vl (w64 (x5 + 0)), vu, vi (x7 + 1), vi 8]) rfl rfl g6 rfl ?_
          refine wp_goto (tn := 14) rfl rfl ?_
          exact H
        · replace H := H.2 c5
          refine wp_iload rfl rfl ?_
          refine wp_iconst rfl ?_
          refine wp_iclt (tn := 21) rfl rfl (fun c7 => ?_) (fun c7 => ?_)
          · replace H := H.1 c7
            refine wp_aload rfl rfl ?_
            refine wp_getR (r := 57) rfl (congrArg Prod.fst (kf_57 X.1)) rfl ?_
            refine wp_iload rfl rfl ?_
            refine wp_laload rfl (kf_58 X.1) (by decide) ?_
            refine wp_aload rfl rfl ?_
            refine wp_getR (r := 59) rfl (congrArg Prod.fst (kf_57 X.1)) rfl ?_
            refine wp_iload rfl rfl ?_
            refine wp_laload rfl (kf_60 X.1) ⟨c5, c7⟩ ?_
            refine wp_land rfl ?_
            refine wp_lret rfl rfl ?_
            show Wp X _ 246 48 [vr 57, vr 62, vi x2, vl x3, vu, vl x5, vu, vi x7, vi 8] [vl ((i64 (h 58 8) &&& i64 (h 60 x7)).toInt), vl x3] _ _
            refine wp_ladd rfl ?_
            refine wp_lstore (L2 := [vr 57, vr 62, vi x2, vl (w64 (x3 + ((i64 (h 58 8) &&& i64 (h 60 x7)).toInt))), vu, vl x5, vu, vi x7, vi 8]) rfl (Nat.le_of_ble_eq_true rfl) rfl ?_
            refine wp_lload rfl rfl ?_
            refine wp_aload rfl rfl ?_
            refine wp_iload rfl rfl ?_
            refine wp_iload rfl rfl ?_
            refine wp_call (k := 240) (ρ2 := 0) (L2 := [vr 57, vi 8, vi x7]) rfl rfl rfl (Nat.le_of_ble_eq_true rfl) (Nat.le_of_ble_eq_true rfl) (Nat.le_of_ble_eq_true rfl) (rcv_V rfl (congrArg Prod.fst (kf_57 X.1))) rfl ?_
            refine wp_iload rfl rfl ?_
            refine wp_ifltF (tn := 19) rfl rfl (by decide) ?_
            refine wp_iload rfl rfl ?_
            refine wp_iconst rfl ?_
            refine wp_icgeF (tn := 19) rfl rfl (by decide) ?_
            refine wp_iload rfl rfl ?_
            refine wp_ifltF (tn := 19) rfl rfl c5 ?_
            refine wp_iload rfl rfl ?_
            refine wp_iconst rfl ?_
            refine wp_icltT (tn := 21) rfl rfl c7 ?_
            refine wp_aload rfl rfl ?_
            refine wp_getR (r := 58) rfl (congrArg Prod.fst (kf_57 X.1)) rfl ?_
            refine wp_iload rfl rfl ?_
            refine wp_laload rfl (kf_59 X.1) (by decide) ?_
            refine wp_aload rfl rfl ?_
            refine wp_getR (r := 59) rfl (congrArg Prod.fst (kf_57 X.1)) rfl ?_
            refine wp_iload rfl rfl ?_
            refine wp_laload rfl (kf_60 X.1) ⟨c5, c7⟩ ?_
            refine wp_land rfl ?_
            refine wp_lret rfl rfl ?_
            show Wp X _ 246 60 [vr 57, vr 62, vi x2, vl (w64 (x3 + ((i64 (h 58 8) &&& i64 (h 60 x7)).toInt))), vu, vl x5, vu, vi x7, vi 8] [vl ((i64 (h 59 8) &&& i64 (h 60 x7)).toInt), vl x5] _ _
            refine wp_ladd rfl ?_
            refine wp_lstore (L2 := [vr 57, vr 62, vi x2, vl (w64 (x3 + ((i64 (h 58 8) &&& i64 (h 60 x7)).toInt))), vu, vl (w64 (x5 + ((i64 (h 59 8) &&& i64 (h 60 x7)).toInt))), vu, vi x7, vi 8]) rfl (Nat.le_of_ble_eq_true rfl) rfl ?_
            refine wp_iincR (L2 := [vr 57, vr 62, vi x2, vl (w64 (x3 + ((i64 (h 58 8) &&& i64 (h 60 x7)).toInt))), vu, vl (w64 (x5 + ((i64 (h 59 8) &&& i64 (h 60 x7)).toInt))), vu, vi (x7 + 1), vi 8]) rfl rfl (by clear H; unfold R32; omega) rfl ?_
            refine wp_goto (tn := 14) rfl rfl ?_
            exact H
          · replace H := H.2 c7
            refine wp_sipush rfl ?_
            refine wp_lret rfl rfl ?_
            show Wp X _ 246 48 [vr 57, vr 62, vi x2, vl x3, vu, vl x5, vu, vi x7, vi 8] [vl 0, vl x3] _ _
            refine wp_ladd rfl ?_
            refine wp_lstore (L2 := [vr 57, vr 62, vi x2, vl (w64 (x3 + 0)), vu, vl x5, vu, vi x7, vi 8]) rfl (Nat.le_of_ble_eq_true rfl) rfl ?_
            refine wp_lload rfl rfl ?_
            refine wp_aload rfl rfl ?_
            refine wp_iload rfl rfl ?_
            refine wp_iload rfl rfl ?_
            refine wp_call (k := 240) (ρ2 := 0) (L2 := [vr 57, vi 8, vi x7]) rfl rfl rfl (Nat.le_of_ble_eq_true rfl) (Nat.le_of_ble_eq_true rfl) (Nat.le_of_ble_eq_true rfl) (rcv_V rfl (congrArg Prod.fst (kf_57 X.1))) rfl ?_
            refine wp_iload rfl rfl ?_
            refine wp_ifltF (tn := 19) rfl rfl (by decide) ?_
            refine wp_iload rfl rfl ?_
            refine wp_iconst rfl ?_
            refine wp_icgeF (tn := 19) rfl rfl (by decide) ?_
            refine wp_iload rfl rfl ?_
            refine wp_ifltF (tn := 19) rfl rfl c5 ?_
            refine wp_iload rfl rfl ?_
            refine wp_iconst rfl ?_
            refine wp_icltF (tn := 21) rfl rfl c7 ?_
            refine wp_sipush rfl ?_
            refine wp_lret rfl rfl ?_
            show Wp X _ 246 60 [vr 57, vr 62, vi x2, vl (w64 (x3 + 0)), vu, vl x5, vu, vi x7, vi 8] [vl 0, vl x5] _ _
            refine wp_ladd rfl ?_
            refine wp_lstore (L2 := [vr 57, vr 62, vi x2, vl (w64 (x3 + 0)), vu, vl (w64 (x5 + 0)), vu, vi x7, vi 8]) rfl (Nat.le_of_ble_eq_true rfl) rfl ?_
            have g8 := H.1
            replace H := H.2
            refine wp_iincR (L2 := [vr 57, vr 62, vi x2, vl (w64 (x3 + 0)), vu, vl (w64 (x5 + 0)), vu, vi (x7 + 1), vi 8]) rfl rfl g8 rfl ?_
            refine wp_goto (tn := 14) rfl rfl ?_
            exact H
      · replace H := H.2 c4
        refine wp_iload rfl rfl ?_
        refine wp_aload rfl rfl ?_
        refine wp_getI (j := 6) rfl (congrArg Prod.fst (kf_62 X.1)) rfl ?_
        refine wp_icge (tn := 16) rfl rfl (fun c9 => ?_) (fun c9 => ?_)
        · replace H := H.1 c9
          refine wp_iconst rfl ?_
          refine wp_zret rfl rfl (by decide) ?_
          show Wp X _ 192 5 [vr 62, vi (x2 - x7)] [vi 0] _ _
          refine wp_ifeqT (tn := 17) rfl rfl (by decide) ?_
          refine wp_iconst rfl ?_
          refine wp_iret rfl rfl ?_
          show Wp X _ 246 37 [vr 57, vr 62, vi x2, vl x3, vu, vl x5, vu, vi x7, zx8] [vi 8] _ _
          refine wp_istore (L2 := [vr 57, vr 62, vi x2, vl x3, vu, vl x5, vu, vi x7, vi 8]) rfl (Nat.le_of_ble_eq_true rfl) rfl ?_
          refine wp_lload rfl rfl ?_
          refine wp_aload rfl rfl ?_
          refine wp_iload rfl rfl ?_
          refine wp_iload rfl rfl ?_
          refine wp_call (k := 239) (ρ2 := 0) (L2 := [vr 57, vi 8, vi x7]) rfl rfl rfl (Nat.le_of_ble_eq_true rfl) (Nat.le_of_ble_eq_true rfl) (Nat.le_of_ble_eq_true rfl) (rcv_V rfl (congrArg Prod.fst (kf_57 X.1))) rfl ?_
          refine wp_iload rfl rfl ?_
          refine wp_ifltF (tn := 19) rfl rfl (by decide) ?_
          refine wp_iload rfl rfl ?_
          refine wp_iconst rfl ?_
          refine wp_icgeF (tn := 19) rfl rfl (by decide) ?_
          refine wp_iload rfl rfl ?_
          refine wp_iflt (tn := 19) rfl rfl (fun c10 => ?_) (fun c10 => ?_)
          · replace H := H.1 c10
            refine wp_sipush rfl ?_
            refine wp_lret rfl rfl ?_
            show Wp X _ 246 48 [vr 57, vr 62, vi x2, vl x3, vu, vl x5, vu, vi x7, vi 8] [vl 0, vl x3] _ _
            refine wp_ladd rfl ?_
            refine wp_lstore (L2 := [vr 57, vr 62, vi x2, vl (w64 (x3 + 0)), vu, vl x5, vu, vi x7, vi 8]) rfl (Nat.le_of_ble_eq_true rfl) rfl ?_
            refine wp_lload rfl rfl ?_
            refine wp_aload rfl rfl ?_
            refine wp_iload rfl rfl ?_
            refine wp_iload rfl rfl ?_
            refine wp_call (k := 240) (ρ2 := 0) (L2 := [vr 57, vi 8, vi x7]) rfl rfl rfl (Nat.le_of_ble_eq_true rfl) (Nat.le_of_ble_eq_true rfl) (Nat.le_of_ble_eq_true rfl) (rcv_V rfl (congrArg Prod.fst (kf_57 X.1))) rfl ?_
            refine wp_iload rfl rfl ?_
            refine wp_ifltF (tn := 19) rfl rfl (by decide) ?_
            refine wp_iload rfl rfl ?_
            refine wp_iconst rfl ?_
            refine wp_icgeF (tn := 19) rfl rfl (by decide) ?_
            refine wp_iload rfl rfl ?_
            refine wp_ifltT (tn := 19) rfl rfl c10 ?_
            refine wp_sipush rfl ?_
            refine wp_lret rfl rfl ?_
            show Wp X _ 246 60 [vr 57, vr 62, vi x2, vl (w64 (x3 + 0)), vu, vl x5, vu, vi x7, vi 8] [vl 0, vl x5] _ _
            refine wp_ladd rfl ?_
            refine wp_lstore (L2 := [vr 57, vr 62, vi x2, vl (w64 (x3 + 0)), vu, vl (w64 (x5 + 0)), vu, vi x7, vi 8]) rfl (Nat.le_of_ble_eq_true rfl) rfl ?_
            have g11 := H.1
            replace H := H.2
            refine wp_iincR (L2 := [vr 57, vr 62, vi x2, vl (w64 (x3 + 0)), vu, vl (w64 (x5 + 0)), vu, vi (x7 + 1), vi 8]) rfl rfl g11 rfl ?_
            refine wp_goto (tn := 14) rfl rfl ?_
            exact H
          · replace H := H.2 c10
            refine wp_iload rfl rfl ?_
            refine wp_iconst rfl ?_
            refine wp_iclt (tn := 21) rfl rfl (fun c12 => ?_) (fun c12 => ?_)
            · replace H := H.1 c12
              refine wp_aload rfl rfl ?_
              refine wp_getR (r := 57) rfl (congrArg Prod.fst (kf_57 X.1)) rfl ?_
              refine wp_iload rfl rfl ?_
              refine wp_laload rfl (kf_58 X.1) (by decide) ?_
              refine wp_aload rfl rfl ?_
              refine wp_getR (r := 59) rfl (congrArg Prod.fst (kf_57 X.1)) rfl ?_
              refine wp_iload rfl rfl ?_
              refine wp_laload rfl (kf_60 X.1) ⟨c10, c12⟩ ?_
              refine wp_land rfl ?_
              refine wp_lret rfl rfl ?_
              show Wp X _ 246 48 [vr 57, vr 62, vi x2, vl x3, vu, vl x5, vu, vi x7, vi 8] [vl ((i64 (h 58 8) &&& i64 (h 60 x7)).toInt), vl x3] _ _
              refine wp_ladd rfl ?_
              refine wp_lstore (L2 := [vr 57, vr 62, vi x2, vl (w64 (x3 + ((i64 (h 58 8) &&& i64 (h 60 x7)).toInt))), vu, vl x5, vu, vi x7, vi 8]) rfl (Nat.le_of_ble_eq_true rfl) rfl ?_
              refine wp_lload rfl rfl ?_
              refine wp_aload rfl rfl ?_
              refine wp_iload rfl rfl ?_
              refine wp_iload rfl rfl ?_
              refine wp_call (k := 240) (ρ2 := 0) (L2 := [vr 57, vi 8, vi x7]) rfl rfl rfl (Nat.le_of_ble_eq_true rfl) (Nat.le_of_ble_eq_true rfl) (Nat.le_of_ble_eq_true rfl) (rcv_V rfl (congrArg Prod.fst (kf_57 X.1))) rfl ?_
              refine wp_iload rfl rfl ?_
              refine wp_ifltF (tn := 19) rfl rfl (by decide) ?_
              refine wp_iload rfl rfl ?_
              refine wp_iconst rfl ?_
              refine wp_icgeF (tn := 19) rfl rfl (by decide) ?_
              refine wp_iload rfl rfl ?_
              refine wp_ifltF (tn := 19) rfl rfl c10 ?_
              refine wp_iload rfl rfl ?_
              refine wp_iconst rfl ?_
              refine wp_icltT (tn := 21) rfl rfl c12 ?_
              refine wp_aload rfl rfl ?_
              refine wp_getR (r := 58) rfl (congrArg Prod.fst (kf_57 X.1)) rfl ?_
              refine wp_iload rfl rfl ?_
              refine wp_laload rfl (kf_59 X.1) (by decide) ?_
              refine wp_aload rfl rfl ?_
              refine wp_getR (r := 59) rfl (congrArg Prod.fst (kf_57 X.1)) rfl ?_
              refine wp_iload rfl rfl ?_
              refine wp_laload rfl (kf_60 X.1) ⟨c10, c12⟩ ?_
              refine wp_land rfl ?_
              refine wp_lret rfl rfl ?_
              show Wp X _ 246 60 [vr 57, vr 62, vi x2, vl (w64 (x3 + ((i64 (h 58 8) &&& i64 (h 60 x7)).toInt))), vu, vl x5, vu, vi x7, vi 8] [vl ((i64 (h 59 8) &&& i64 (h 60 x7)).toInt), vl x5] _ _
              refine wp_ladd rfl ?_
              refine wp_lstore (L2 := [vr 57, vr 62, vi x2, vl (w64 (x3 + ((i64 (h 58 8) &&& i64 (h 60 x7)).toInt))), vu, vl (w64 (x5 + ((i64 (h 59 8) &&& i64 (h 60 x7)).toInt))), vu, vi x7, vi 8]) rfl (Nat.le_of_ble_eq_true rfl) rfl ?_
              refine wp_iincR (L2 := [vr 57, vr 62, vi x2, vl (w64 (x3 + ((i64 (h 58 8) &&& i64 (h 60 x7)).toInt))), vu, vl (w64 (x5 + ((i64 (h 59 8) &&& i64 (h 60 x7)).toInt))), vu, vi (x7 + 1), vi 8]) rfl rfl (by clear H; unfold R32; omega) rfl ?_
              refine wp_goto (tn := 14) rfl rfl ?_
              exact H
            · replace H := H.2 c12
              refine wp_sipush rfl ?_
              refine wp_lret rfl rfl ?_
              show Wp X _ 246 48 [vr 57, vr 62, vi x2, vl x3, vu, vl x5, vu, vi x7, vi 8] [vl 0, vl x3] _ _
              refine wp_ladd rfl ?_
              refine wp_lstore (L2 := [vr 57, vr 62, vi x2, vl (w64 (x3 + 0)), vu, vl x5, vu, vi x7, vi 8]) rfl (Nat.le_of_ble_eq_true rfl) rfl ?_
              refine wp_lload rfl rfl ?_
              refine wp_aload rfl rfl ?_
              refine wp_iload rfl rfl ?_
              refine wp_iload rfl rfl ?_
              refine wp_call (k := 240) (ρ2 := 0) (L2 := [vr 57, vi 8, vi x7]) rfl rfl rfl (Nat.le_of_ble_eq_true rfl) (Nat.le_of_ble_eq_true rfl) (Nat.le_of_ble_eq_true rfl) (rcv_V rfl (congrArg Prod.fst (kf_57 X.1))) rfl ?_
              refine wp_iload rfl rfl ?_
              refine wp_ifltF (tn := 19) rfl rfl (by decide) ?_
              refine wp_iload rfl rfl ?_
              refine wp_iconst rfl ?_
              refine wp_icgeF (tn := 19) rfl rfl (by decide) ?_
              refine wp_iload rfl rfl ?_
              refine wp_ifltF (tn := 19) rfl rfl c10 ?_
              refine wp_iload rfl rfl ?_
              refine wp_iconst rfl ?_
              refine wp_icltF (tn := 21) rfl rfl c12 ?_
              refine wp_sipush rfl ?_
              refine wp_lret rfl rfl ?_
              show Wp X _ 246 60 [vr 57, vr 62, vi x2, vl (w64 (x3 + 0)), vu, vl x5, vu, vi x7, vi 8] [vl 0, vl x5] _ _
              refine wp_ladd rfl ?_
              refine wp_lstore (L2 := [vr 57, vr 62, vi x2, vl (w64 (x3 + 0)), vu, vl (w64 (x5 + 0)), vu, vi x7, vi 8]) rfl (Nat.le_of_ble_eq_true rfl) rfl ?_
              have g13 := H.1
              replace H := H.2
              refine wp_iincR (L2 := [vr 57, vr 62, vi x2, vl (w64 (x3 + 0)), vu, vl (w64 (x5 + 0)), vu, vi (x7 + 1), vi 8]) rfl rfl g13 rfl ?_
              refine wp_goto (tn := 14) rfl rfl ?_
              exact H
        · replace H := H.2 c9
          refine wp_iconst rfl ?_
          refine wp_goto (tn := 17) rfl rfl ?_
          refine wp_zret rfl rfl (by decide) ?_
          show Wp X _ 192 5 [vr 62, vi (x2 - x7)] [vi 1] _ _
          refine wp_ifeqF (tn := 17) rfl rfl (by decide) ?_
          refine wp_aload rfl rfl ?_
          refine wp_getR (r := 64) rfl (congrArg Prod.fst (kf_62 X.1)) rfl ?_
          refine wp_iload rfl rfl ?_
          have g14 := H.1
          replace H := H.2
          refine wp_iaload rfl (kf_65 X.1) g14 ?_
          refine wp_goto (tn := 19) rfl rfl ?_
          refine wp_iret rfl rfl ?_
          show Wp X _ 246 37 [vr 57, vr 62, vi x2, vl x3, vu, vl x5, vu, vi x7, zx8] [vi (h 65 (x2 - x7))] _ _
          refine wp_istore (L2 := [vr 57, vr 62, vi x2, vl x3, vu, vl x5, vu, vi x7, vi (h 65 (x2 - x7))]) rfl (Nat.le_of_ble_eq_true rfl) rfl ?_
          refine wp_lload rfl rfl ?_
          refine wp_aload rfl rfl ?_
          refine wp_iload rfl rfl ?_
          refine wp_iload rfl rfl ?_
          refine wp_call (k := 239) (ρ2 := 0) (L2 := [vr 57, vi (h 65 (x2 - x7)), vi x7]) rfl rfl rfl (Nat.le_of_ble_eq_true rfl) (Nat.le_of_ble_eq_true rfl) (Nat.le_of_ble_eq_true rfl) (rcv_V rfl (congrArg Prod.fst (kf_57 X.1))) rfl ?_
          refine wp_iload rfl rfl ?_
          refine wp_iflt (tn := 19) rfl rfl (fun c15 => ?_) (fun c15 => ?_)
          · replace H := H.1 c15
            refine wp_sipush rfl ?_
            refine wp_lret rfl rfl ?_
            show Wp X _ 246 48 [vr 57, vr 62, vi x2, vl x3, vu, vl x5, vu, vi x7, vi (h 65 (x2 - x7))] [vl 0, vl x3] _ _
            refine wp_ladd rfl ?_
            refine wp_lstore (L2 := [vr 57, vr 62, vi x2, vl (w64 (x3 + 0)), vu, vl x5, vu, vi x7, vi (h 65 (x2 - x7))]) rfl (Nat.le_of_ble_eq_true rfl) rfl ?_
            refine wp_lload rfl rfl ?_
            refine wp_aload rfl rfl ?_
            refine wp_iload rfl rfl ?_
            refine wp_iload rfl rfl ?_
            refine wp_call (k := 240) (ρ2 := 0) (L2 := [vr 57, vi (h 65 (x2 - x7)), vi x7]) rfl rfl rfl (Nat.le_of_ble_eq_true rfl) (Nat.le_of_ble_eq_true rfl) (Nat.le_of_ble_eq_true rfl) (rcv_V rfl (congrArg Prod.fst (kf_57 X.1))) rfl ?_
            refine wp_iload rfl rfl ?_
            refine wp_ifltT (tn := 19) rfl rfl c15 ?_
            refine wp_sipush rfl ?_
            refine wp_lret rfl rfl ?_
            show Wp X _ 246 60 [vr 57, vr 62, vi x2, vl (w64 (x3 + 0)), vu, vl x5, vu, vi x7, vi (h 65 (x2 - x7))] [vl 0, vl x5] _ _
            refine wp_ladd rfl ?_
            refine wp_lstore (L2 := [vr 57, vr 62, vi x2, vl (w64 (x3 + 0)), vu, vl (w64 (x5 + 0)), vu, vi x7, vi (h 65 (x2 - x7))]) rfl (Nat.le_of_ble_eq_true rfl) rfl ?_
            have g16 := H.1
            replace H := H.2
            refine wp_iincR (L2 := [vr 57, vr 62, vi x2, vl (w64 (x3 + 0)), vu, vl (w64 (x5 + 0)), vu, vi (x7 + 1), vi (h 65 (x2 - x7))]) rfl rfl g16 rfl ?_
            refine wp_goto (tn := 14) rfl rfl ?_
            exact H
          · replace H := H.2 c15
            refine wp_iload rfl rfl ?_
            refine wp_iconst rfl ?_
            refine wp_icge (tn := 19) rfl rfl (fun c17 => ?_) (fun c17 => ?_)
            · replace H := H.1 c17
              refine wp_sipush rfl ?_
              refine wp_lret rfl rfl ?_
              show Wp X _ 246 48 [vr 57, vr 62, vi x2, vl x3, vu, vl x5, vu, vi x7, vi (h 65 (x2 - x7))] [vl 0, vl x3] _ _
              refine wp_ladd rfl ?_
              refine wp_lstore (L2 := [vr 57, vr 62, vi x2, vl (w64 (x3 + 0)), vu, vl x5, vu, vi x7, vi (h 65 (x2 - x7))]) rfl (Nat.le_of_ble_eq_true rfl) rfl ?_
              refine wp_lload rfl rfl ?_
              refine wp_aload rfl rfl ?_
              refine wp_iload rfl rfl ?_
              refine wp_iload rfl rfl ?_
              refine wp_call (k := 240) (ρ2 := 0) (L2 := [vr 57, vi (h 65 (x2 - x7)), vi x7]) rfl rfl rfl (Nat.le_of_ble_eq_true rfl) (Nat.le_of_ble_eq_true rfl) (Nat.le_of_ble_eq_true rfl) (rcv_V rfl (congrArg Prod.fst (kf_57 X.1))) rfl ?_
              refine wp_iload rfl rfl ?_
              refine wp_ifltF (tn := 19) rfl rfl c15 ?_
              refine wp_iload rfl rfl ?_
              refine wp_iconst rfl ?_
              refine wp_icgeT (tn := 19) rfl rfl c17 ?_
              refine wp_sipush rfl ?_
              refine wp_lret rfl rfl ?_
              show Wp X _ 246 60 [vr 57, vr 62, vi x2, vl (w64 (x3 + 0)), vu, vl x5, vu, vi x7, vi (h 65 (x2 - x7))] [vl 0, vl x5] _ _
              refine wp_ladd rfl ?_
              refine wp_lstore (L2 := [vr 57, vr 62, vi x2, vl (w64 (x3 + 0)), vu, vl (w64 (x5 + 0)), vu, vi x7, vi (h 65 (x2 - x7))]) rfl (Nat.le_of_ble_eq_true rfl) rfl ?_
              have g18 := H.1
              replace H := H.2
              refine wp_iincR (L2 := [vr 57, vr 62, vi x2, vl (w64 (x3 + 0)), vu, vl (w64 (x5 + 0)), vu, vi (x7 + 1), vi (h 65 (x2 - x7))]) rfl rfl g18 rfl ?_
              refine wp_goto (tn := 14) rfl rfl ?_
              exact H
            · replace H := H.2 c17
              refine wp_iload rfl rfl ?_
              refine wp_iflt (tn := 19) rfl rfl (fun c19 => ?_) (fun c19 => ?_)
              · replace H := H.1 c19
                refine wp_sipush rfl ?_
                refine wp_lret rfl rfl ?_
                show Wp X _ 246 48 [vr 57, vr 62, vi x2, vl x3, vu, vl x5, vu, vi x7, vi (h 65 (x2 - x7))] [vl 0, vl x3] _ _
                refine wp_ladd rfl ?_
                refine wp_lstore (L2 := [vr 57, vr 62, vi x2, vl (w64 (x3 + 0)), vu, vl x5, vu, vi x7, vi (h 65 (x2 - x7))]) rfl (Nat.le_of_ble_eq_true rfl) rfl ?_
                refine wp_lload rfl rfl ?_
                refine wp_aload rfl rfl ?_
                refine wp_iload rfl rfl ?_
                refine wp_iload rfl rfl ?_
                refine wp_call (k := 240) (ρ2 := 0) (L2 := [vr 57, vi (h 65 (x2 - x7)), vi x7]) rfl rfl rfl (Nat.le_of_ble_eq_true rfl) (Nat.le_of_ble_eq_true rfl) (Nat.le_of_ble_eq_true rfl) (rcv_V rfl (congrArg Prod.fst (kf_57 X.1))) rfl ?_
                refine wp_iload rfl rfl ?_
                refine wp_ifltF (tn := 19) rfl rfl c15 ?_
                refine wp_iload rfl rfl ?_
                refine wp_iconst rfl ?_
                refine wp_icgeF (tn := 19) rfl rfl c17 ?_
                refine wp_iload rfl rfl ?_
                refine wp_ifltT (tn := 19) rfl rfl c19 ?_
                refine wp_sipush rfl ?_
                refine wp_lret rfl rfl ?_
                show Wp X _ 246 60 [vr 57, vr 62, vi x2, vl (w64 (x3 + 0)), vu, vl x5, vu, vi x7, vi (h 65 (x2 - x7))] [vl 0, vl x5] _ _
                refine wp_ladd rfl ?_
                refine wp_lstore (L2 := [vr 57, vr 62, vi x2, vl (w64 (x3 + 0)), vu, vl (w64 (x5 + 0)), vu, vi x7, vi (h 65 (x2 - x7))]) rfl (Nat.le_of_ble_eq_true rfl) rfl ?_
                have g20 := H.1
                replace H := H.2
                refine wp_iincR (L2 := [vr 57, vr 62, vi x2, vl (w64 (x3 + 0)), vu, vl (w64 (x5 + 0)), vu, vi (x7 + 1), vi (h 65 (x2 - x7))]) rfl rfl g20 rfl ?_
                refine wp_goto (tn := 14) rfl rfl ?_
                exact H
              · replace H := H.2 c19
                refine wp_iload rfl rfl ?_
                refine wp_iconst rfl ?_
                refine wp_iclt (tn := 21) rfl rfl (fun c21 => ?_) (fun c21 => ?_)
                · replace H := H.1 c21
                  refine wp_aload rfl rfl ?_
                  refine wp_getR (r := 57) rfl (congrArg Prod.fst (kf_57 X.1)) rfl ?_
                  refine wp_iload rfl rfl ?_
                  refine wp_laload rfl (kf_58 X.1) ⟨c15, c17⟩ ?_
                  refine wp_aload rfl rfl ?_
                  refine wp_getR (r := 59) rfl (congrArg Prod.fst (kf_57 X.1)) rfl ?_
                  refine wp_iload rfl rfl ?_
                  refine wp_laload rfl (kf_60 X.1) ⟨c19, c21⟩ ?_
                  refine wp_land rfl ?_
                  refine wp_lret rfl rfl ?_
                  show Wp X _ 246 48 [vr 57, vr 62, vi x2, vl x3, vu, vl x5, vu, vi x7, vi (h 65 (x2 - x7))] [vl ((i64 (h 58 (h 65 (x2 - x7))) &&& i64 (h 60 x7)).toInt), vl x3] _ _
                  refine wp_ladd rfl ?_
                  refine wp_lstore (L2 := [vr 57, vr 62, vi x2, vl (w64 (x3 + ((i64 (h 58 (h 65 (x2 - x7))) &&& i64 (h 60 x7)).toInt))), vu, vl x5, vu, vi x7, vi (h 65 (x2 - x7))]) rfl (Nat.le_of_ble_eq_true rfl) rfl ?_
                  refine wp_lload rfl rfl ?_
                  refine wp_aload rfl rfl ?_
                  refine wp_iload rfl rfl ?_
                  refine wp_iload rfl rfl ?_
                  refine wp_call (k := 240) (ρ2 := 0) (L2 := [vr 57, vi (h 65 (x2 - x7)), vi x7]) rfl rfl rfl (Nat.le_of_ble_eq_true rfl) (Nat.le_of_ble_eq_true rfl) (Nat.le_of_ble_eq_true rfl) (rcv_V rfl (congrArg Prod.fst (kf_57 X.1))) rfl ?_
                  refine wp_iload rfl rfl ?_
                  refine wp_ifltF (tn := 19) rfl rfl c15 ?_
                  refine wp_iload rfl rfl ?_
                  refine wp_iconst rfl ?_
                  refine wp_icgeF (tn := 19) rfl rfl c17 ?_
                  refine wp_iload rfl rfl ?_
                  refine wp_ifltF (tn := 19) rfl rfl c19 ?_
                  refine wp_iload rfl rfl ?_
                  refine wp_iconst rfl ?_
                  refine wp_icltT (tn := 21) rfl rfl c21 ?_
                  refine wp_aload rfl rfl ?_
                  refine wp_getR (r := 58) rfl (congrArg Prod.fst (kf_57 X.1)) rfl ?_
                  refine wp_iload rfl rfl ?_
                  refine wp_laload rfl (kf_59 X.1) ⟨c15, c17⟩ ?_
                  refine wp_aload rfl rfl ?_
                  refine wp_getR (r := 59) rfl (congrArg Prod.fst (kf_57 X.1)) rfl ?_
                  refine wp_iload rfl rfl ?_
                  refine wp_laload rfl (kf_60 X.1) ⟨c19, c21⟩ ?_
                  refine wp_land rfl ?_
                  refine wp_lret rfl rfl ?_
                  show Wp X _ 246 60 [vr 57, vr 62, vi x2, vl (w64 (x3 + ((i64 (h 58 (h 65 (x2 - x7))) &&& i64 (h 60 x7)).toInt))), vu, vl x5, vu, vi x7, vi (h 65 (x2 - x7))] [vl ((i64 (h 59 (h 65 (x2 - x7))) &&& i64 (h 60 x7)).toInt), vl x5] _ _
                  refine wp_ladd rfl ?_
                  refine wp_lstore (L2 := [vr 57, vr 62, vi x2, vl (w64 (x3 + ((i64 (h 58 (h 65 (x2 - x7))) &&& i64 (h 60 x7)).toInt))), vu, vl (w64 (x5 + ((i64 (h 59 (h 65 (x2 - x7))) &&& i64 (h 60 x7)).toInt))), vu, vi x7, vi (h 65 (x2 - x7))]) rfl (Nat.le_of_ble_eq_true rfl) rfl ?_
                  refine wp_iincR (L2 := [vr 57, vr 62, vi x2, vl (w64 (x3 + ((i64 (h 58 (h 65 (x2 - x7))) &&& i64 (h 60 x7)).toInt))), vu, vl (w64 (x5 + ((i64 (h 59 (h 65 (x2 - x7))) &&& i64 (h 60 x7)).toInt))), vu, vi (x7 + 1), vi (h 65 (x2 - x7))]) rfl rfl (by clear H; unfold R32; omega) rfl ?_
                  refine wp_goto (tn := 14) rfl rfl ?_
                  exact H
                · replace H := H.2 c21
                  refine wp_sipush rfl ?_
                  refine wp_lret rfl rfl ?_
                  show Wp X _ 246 48 [vr 57, vr 62, vi x2, vl x3, vu, vl x5, vu, vi x7, vi (h 65 (x2 - x7))] [vl 0, vl x3] _ _
                  refine wp_ladd rfl ?_
                  refine wp_lstore (L2 := [vr 57, vr 62, vi x2, vl (w64 (x3 + 0)), vu, vl x5, vu, vi x7, vi (h 65 (x2 - x7))]) rfl (Nat.le_of_ble_eq_true rfl) rfl ?_
                  refine wp_lload rfl rfl ?_
                  refine wp_aload rfl rfl ?_
                  refine wp_iload rfl rfl ?_
                  refine wp_iload rfl rfl ?_
                  refine wp_call (k := 240) (ρ2 := 0) (L2 := [vr 57, vi (h 65 (x2 - x7)), vi x7]) rfl rfl rfl (Nat.le_of_ble_eq_true rfl) (Nat.le_of_ble_eq_true rfl) (Nat.le_of_ble_eq_true rfl) (rcv_V rfl (congrArg Prod.fst (kf_57 X.1))) rfl ?_
                  refine wp_iload rfl rfl ?_
                  refine wp_ifltF (tn := 19) rfl rfl c15 ?_
                  refine wp_iload rfl rfl ?_
                  refine wp_iconst rfl ?_
                  refine wp_icgeF (tn := 19) rfl rfl c17 ?_
                  refine wp_iload rfl rfl ?_
                  refine wp_ifltF (tn := 19) rfl rfl c19 ?_
                  refine wp_iload rfl rfl ?_
                  refine wp_iconst rfl ?_
                  refine wp_icltF (tn := 21) rfl rfl c21 ?_
                  refine wp_sipush rfl ?_
                  refine wp_lret rfl rfl ?_
                  show Wp X _ 246 60 [vr 57, vr 62, vi x2, vl (w64 (x3 + 0)), vu, vl x5, vu, vi x7, vi (h 65 (x2 - x7))] [vl 0, vl x5] _ _
                  refine wp_ladd rfl ?_
                  refine wp_lstore (L2 := [vr 57, vr 62, vi x2, vl (w64 (x3 + 0)), vu, vl (w64 (x5 + 0)), vu, vi x7, vi (h 65 (x2 - x7))]) rfl (Nat.le_of_ble_eq_true rfl) rfl ?_
                  have g22 := H.1
                  replace H := H.2
                  refine wp_iincR (L2 := [vr 57, vr 62, vi x2, vl (w64 (x3 + 0)), vu, vl (w64 (x5 + 0)), vu, vi (x7 + 1), vi (h 65 (x2 - x7))]) rfl rfl g22 rfl ?_
                  refine wp_goto (tn := 14) rfl rfl ?_
                  exact H
theorem S247_18 {X : Nat × (Int → Int)} {h : HP} {Q : bQ} (x3 : Int) (H : ((R32 ((X.1 : Int) - 6)) ∧ ((((X.1 : Int) - 6) < x3 → Q (some (vi 1)) h) ∧ (x3 ≤ ((X.1 : Int) - 6) → ((0 ≤ x3 ∧ x3 < (X.1 : Int)) ∧ ((((i32 (X.2 x3) &&& i32 31).toInt) = 0 → Wp X 2 1 0 [vr 6] [] h (fun v h' => Wp X 17 247 176 [vr 5, vr 6, vr 89, vi x3] (psh v []) h' Q)) ∧ (((i32 (X.2 x3) &&& i32 31).toInt) ≠ 0 → ((((i32 (X.2 x3) &&& i32 31).toInt) = 1 → ((R32 (x3 + 1)) ∧ ((0 ≤ (x3 + 1) ∧ (x3 + 1) < (X.1 : Int)) ∧ ((R32 (x3 + 2)) ∧ ((0 ≤ (x3 + 2) ∧ (x3 + 2) < (X.1 : Int)) ∧ ((R32 (x3 + 3)) ∧ ((0 ≤ (x3 + 3) ∧ (x3 + 3) < (X.1 : Int)) ∧ ((R32 (x3 + 4)) ∧ ((0 ≤ (x3 + 4) ∧ (x3 + 4) < (X.1 : Int)) ∧ Wp X 6 2 0 [vr 6, vi (X.2 (x3 + 1)), vi (X.2 (x3 + 2)), vi (X.2 (x3 + 3)), vi (X.2 (x3 + 4))] [] h (fun v h' => Wp X 17 247 209 [vr 5, vr 6, vr 89, vi x3] (psh v []) h' Q)))))))))) ∧ (((i32 (X.2 x3) &&& i32 31).toInt) ≠ 1 → ((((i32 (X.2 x3) &&& i32 31).toInt) = 2 → ((R32 (x3 + 1)) ∧ ((0 ≤ (x3 + 1) ∧ (x3 + 1) < (X.1 : Int)) ∧ ((R32 (x3 + 2)) ∧ ((0 ≤ (x3 + 2) ∧ (x3 + 2) < (X.1 : Int)) ∧ ((R32 (x3 + 3)) ∧ ((0 ≤ (x3 + 3) ∧ (x3 + 3) < (X.1 : Int)) ∧ Wp X 6 3 0 [vr 6, vi (X.2 (x3 + 1)), vi (X.2 (x3 + 2)), vi (X.2 (x3 + 3)), vu, vu] [] h (fun v h' => Wp X 17 247 257 [vr 5, vr 6, vr 89, vi x3] (psh v []) h' Q)))))))) ∧ (((i32 (X.2 x3) &&& i32 31).toInt) ≠ 2 → ((((i32 (X.2 x3) &&& i32 31).toInt) = 3 → ((R32 (x3 + 1)) ∧ ((0 ≤ (x3 + 1) ∧ (x3 + 1) < (X.1 : Int)) ∧ ((R32 (x3 + 2)) ∧ ((0 ≤ (x3 + 2) ∧ (x3 + 2) < (X.1 : Int)) ∧ Wp X 6 4 0 [vr 6, vi (X.2 (x3 + 1)), vi (X.2 (x3 + 2)), vu] [] h (fun v h' => Wp X 17 247 295 [vr 5, vr 6, vr 89, vi x3] (psh v []) h' Q)))))) ∧ (((i32 (X.2 x3) &&& i32 31).toInt) ≠ 3 → ((((i32 (X.2 x3) &&& i32 31).toInt) = 4 → ((R32 (x3 + 1)) ∧ ((0 ≤ (x3 + 1) ∧ (x3 + 1) < (X.1 : Int)) ∧ ((R32 (x3 + 2)) ∧ ((0 ≤ (x3 + 2) ∧ (x3 + 2) < (X.1 : Int)) ∧ Wp X 2 5 0 [vr 6, vi (X.2 (x3 + 1)), vi (X.2 (x3 + 2))] [] h (fun v h' => Wp X 17 247 328 [vr 5, vr 6, vr 89, vi x3] (psh v []) h' Q)))))) ∧ (((i32 (X.2 x3) &&& i32 31).toInt) ≠ 4 → ((((i32 (X.2 x3) &&& i32 31).toInt) = 5 → ((R32 (x3 + 1)) ∧ ((0 ≤ (x3 + 1) ∧ (x3 + 1) < (X.1 : Int)) ∧ ((R32 (x3 + 2)) ∧ ((0 ≤ (x3 + 2) ∧ (x3 + 2) < (X.1 : Int)) ∧ ((R32 (x3 + 3)) ∧ ((0 ≤ (x3 + 3) ∧ (x3 + 3) < (X.1 : Int)) ∧ Wp X 2 6 0 [vr 6, vi (X.2 (x3 + 1)), vi (X.2 (x3 + 2)), vi (X.2 (x3 + 3))] [] h (fun v h' => Wp X 17 247 366 [vr 5, vr 6, vr 89, vi x3] (psh v []) h' Q)))))))) ∧ (((i32 (X.2 x3) &&& i32 31).toInt) ≠ 5 → ((((i32 (X.2 x3) &&& i32 31).toInt) = 6 → ((R32 (x3 + 1)) ∧ ((0 ≤ (x3 + 1) ∧ (x3 + 1) < (X.1 : Int)) ∧ ((R32 (x3 + 2)) ∧ ((0 ≤ (x3 + 2) ∧ (x3 + 2) < (X.1 : Int)) ∧ Wp X 2 7 0 [vr 6, vi (X.2 (x3 + 1)), vi (X.2 (x3 + 2))] [] h (fun v h' => Wp X 17 247 405 [vr 5, vr 6, vr 89, vi x3] (psh v []) h' Q)))))) ∧ (((i32 (X.2 x3) &&& i32 31).toInt) ≠ 6 → ((((i32 (X.2 x3) &&& i32 31).toInt) = 7 → Wp X 1 8 0 [vr 6] [] h (fun v h' => Wp X 17 247 429 [vr 5, vr 6, vr 89, vi x3] (psh v []) h' Q)) ∧ (((i32 (X.2 x3) &&& i32 31).toInt) ≠ 7 → ((((i32 (X.2 x3) &&& i32 31).toInt) = 8 → ((R32 (x3 + 1)) ∧ ((0 ≤ (x3 + 1) ∧ (x3 + 1) < (X.1 : Int)) ∧ ((R32 (x3 + 2)) ∧ ((0 ≤ (x3 + 2) ∧ (x3 + 2) < (X.1 : Int)) ∧ Wp X 3 9 0 [vr 6, vi (X.2 (x3 + 1)), vi (X.2 (x3 + 2)), vu] [] h (fun v h' => Wp X 17 247 452 [vr 5, vr 6, vr 89, vi x3] (psh v []) h' Q)))))) ∧ (((i32 (X.2 x3) &&& i32 31).toInt) ≠ 8 → ((((i32 (X.2 x3) &&& i32 31).toInt) = 9 → ((R32 (x3 + 1)) ∧ ((0 ≤ (x3 + 1) ∧ (x3 + 1) < (X.1 : Int)) ∧ ((R32 (x3 + 2)) ∧ ((0 ≤ (x3 + 2) ∧ (x3 + 2) < (X.1 : Int)) ∧ Wp X 6 10 0 [vr 6, vi (X.2 (x3 + 1)), vi (X.2 (x3 + 2))] [] h (fun v h' => Wp X 17 247 485 [vr 5, vr 6, vr 89, vi x3] (psh v []) h' Q)))))) ∧ (((i32 (X.2 x3) &&& i32 31).toInt) ≠ 9 → ((((i32 (X.2 x3) &&& i32 31).toInt) = 10 → ((R32 (x3 + 1)) ∧ ((0 ≤ (x3 + 1) ∧ (x3 + 1) < (X.1 : Int)) ∧ Wp X 6 11 0 [vr 6, vi (X.2 (x3 + 1)), vu] [] h (fun v h' => Wp X 17 247 513 [vr 5, vr 6, vr 89, vi x3] (psh v []) h' Q)))) ∧ (((i32 (X.2 x3) &&& i32 31).toInt) ≠ 10 → ((((i32 (X.2 x3) &&& i32 31).toInt) = 11 → ((R32 (x3 + 1)) ∧ ((0 ≤ (x3 + 1) ∧ (x3 + 1) < (X.1 : Int)) ∧ Wp X 1 12 0 [vr 6, vi (X.2 (x3 + 1))] [] h (fun v h' => Wp X 17 247 536 [vr 5, vr 6, vr 89, vi x3] (psh v []) h' Q)))) ∧ (((i32 (X.2 x3) &&& i32 31).toInt) ≠ 11 → ((((i32 (X.2 x3) &&& i32 31).toInt) = 12 → ((R32 (x3 + 1)) ∧ ((0 ≤ (x3 + 1) ∧ (x3 + 1) < (X.1 : Int)) ∧ ((R32 (x3 + 2)) ∧ ((0 ≤ (x3 + 2) ∧ (x3 + 2) < (X.1 : Int)) ∧ Wp X 4 13 0 [vr 6, vi (X.2 (x3 + 1)), vi (X.2 (x3 + 2))] [] h (fun v h' => Wp X 17 247 564 [vr 5, vr 6, vr 89, vi x3] (psh v []) h' Q)))))) ∧ (((i32 (X.2 x3) &&& i32 31).toInt) ≠ 12 → ((((i32 (X.2 x3) &&& i32 31).toInt) = 13 → ((R32 (x3 + 1)) ∧ ((0 ≤ (x3 + 1) ∧ (x3 + 1) < (X.1 : Int)) ∧ ((R32 (x3 + 2)) ∧ ((0 ≤ (x3 + 2) ∧ (x3 + 2) < (X.1 : Int)) ∧ Wp X 15 14 0 [vr 6, vi (X.2 (x3 + 1)), vi (X.2 (x3 + 2))] [] h (fun v h' => Wp X 17 247 597 [vr 5, vr 6, vr 89, vi x3] (psh v []) h' Q)))))) ∧ (((i32 (X.2 x3) &&& i32 31).toInt) ≠ 13 → ((((i32 (X.2 x3) &&& i32 31).toInt) = 14 → ((R32 (x3 + 1)) ∧ ((0 ≤ (x3 + 1) ∧ (x3 + 1) < (X.1 : Int)) ∧ Wp X 3 15 0 [vr 6, vi (X.2 (x3 + 1)), vu] [] h (fun v h' => Wp X 17 247 625 [vr 5, vr 6, vr 89, vi x3] (psh v []) h' Q)))) ∧ (((i32 (X.2 x3) &&& i32 31).toInt) ≠ 14 → ((((i32 (X.2 x3) &&& i32 31).toInt) = 15 → ((R32 (x3 + 1)) ∧ ((0 ≤ (x3 + 1) ∧ (x3 + 1) < (X.1 : Int)) ∧ Wp X 1 16 0 [vr 6, vi (X.2 (x3 + 1))] [] h (fun v h' => Wp X 17 247 648 [vr 5, vr 6, vr 89, vi x3] (psh v []) h' Q)))) ∧ (((i32 (X.2 x3) &&& i32 31).toInt) ≠ 15 → ((((i32 (X.2 x3) &&& i32 31).toInt) = 16 → ((R32 (x3 + 1)) ∧ ((0 ≤ (x3 + 1) ∧ (x3 + 1) < (X.1 : Int)) ∧ ((R32 (x3 + 2)) ∧ ((0 ≤ (x3 + 2) ∧ (x3 + 2) < (X.1 : Int)) ∧ ((R32 (x3 + 3)) ∧ ((0 ≤ (x3 + 3) ∧ (x3 + 3) < (X.1 : Int)) ∧ ((R32 (x3 + 4)) ∧ ((0 ≤ (x3 + 4) ∧ (x3 + 4) < (X.1 : Int)) ∧ (((X.2 (x3 + 4)) = 0 → ((R32 (x3 + 5)) ∧ ((0 ≤ (x3 + 5) ∧ (x3 + 5) < (X.1 : Int)) ∧ Wp X 4 17 0 [vr 6, vi (X.2 (x3 + 1)), vi (X.2 (x3 + 2)), vi (X.2 (x3 + 3)), vi 0, vi (X.2 (x3 + 5))] [] h (fun v h' => Wp X 17 247 699 [vr 5, vr 6, vr 89, vi x3] (psh v []) h' Q)))) ∧ ((X.2 (x3 + 4)) ≠ 0 → ((R32 (x3 + 5)) ∧ ((0 ≤ (x3 + 5) ∧ (x3 + 5) < (X.1 : Int)) ∧ Wp X 4 17 0 [vr 6, vi (X.2 (x3 + 1)), vi (X.2 (x3 + 2)), vi (X.2 (x3 + 3)), vi 1, vi (X.2 (x3 + 5))] [] h (fun v h' => Wp X 17 247 699 [vr 5, vr 6, vr 89, vi x3] (psh v []) h' Q)))))))))))))) ∧ (((i32 (X.2 x3) &&& i32 31).toInt) ≠ 16 → ((((i32 (X.2 x3) &&& i32 31).toInt) = 17 → ((R32 (x3 + 1)) ∧ ((0 ≤ (x3 + 1) ∧ (x3 + 1) < (X.1 : Int)) ∧ ((R32 (x3 + 2)) ∧ ((0 ≤ (x3 + 2) ∧ (x3 + 2) < (X.1 : Int)) ∧ ((R32 (x3 + 3)) ∧ ((0 ≤ (x3 + 3) ∧ (x3 + 3) < (X.1 : Int)) ∧ Wp X 5 18 0 [vr 6, vi (X.2 (x3 + 1)), vi (X.2 (x3 + 2)), vi (X.2 (x3 + 3)), vu, vu, vu, vu] [] h (fun v h' => Wp X 17 247 761 [vr 5, vr 6, vr 89, vi x3] (psh v []) h' Q)))))))) ∧ (((i32 (X.2 x3) &&& i32 31).toInt) ≠ 17 → ((((i32 (X.2 x3) &&& i32 31).toInt) = 18 → ((R32 (x3 + 1)) ∧ ((0 ≤ (x3 + 1) ∧ (x3 + 1) < (X.1 : Int)) ∧ ((R32 (x3 + 2)) ∧ ((0 ≤ (x3 + 2) ∧ (x3 + 2) < (X.1 : Int)) ∧ ((R32 (x3 + 3)) ∧ ((0 ≤ (x3 + 3) ∧ (x3 + 3) < (X.1 : Int)) ∧ Wp X 3 19 0 [vr 6, vi (X.2 (x3 + 1)), vi (X.2 (x3 + 2)), vi (X.2 (x3 + 3))] [] h (fun v h' => Wp X 17 247 805 [vr 5, vr 6, vr 89, vi x3] (psh v []) h' Q)))))))) ∧ (((i32 (X.2 x3) &&& i32 31).toInt) ≠ 18 → ((((i32 (X.2 x3) &&& i32 31).toInt) = 19 → ((R32 (x3 + 1)) ∧ ((0 ≤ (x3 + 1) ∧ (x3 + 1) < (X.1 : Int)) ∧ Wp X 3 20 0 [vr 6, vi (X.2 (x3 + 1)), vu, vu, vu, vu] [] h (fun v h' => Wp X 17 247 839 [vr 5, vr 6, vr 89, vi x3] (psh v []) h' Q)))) ∧ (((i32 (X.2 x3) &&& i32 31).toInt) ≠ 19 → ((((i32 (X.2 x3) &&& i32 31).toInt) = 20 → ((R32 (x3 + 1)) ∧ ((0 ≤ (x3 + 1) ∧ (x3 + 1) < (X.1 : Int)) ∧ ((R32 (x3 + 2)) ∧ ((0 ≤ (x3 + 2) ∧ (x3 + 2) < (X.1 : Int)) ∧ Wp X 2 21 0 [vr 6, vi (X.2 (x3 + 1)), vi (X.2 (x3 + 2))] [] h (fun v h' => Wp X 17 247 867 [vr 5, vr 6, vr 89, vi x3] (psh v []) h' Q)))))) ∧ (((i32 (X.2 x3) &&& i32 31).toInt) ≠ 20 → ((((i32 (X.2 x3) &&& i32 31).toInt) = 21 → ((R32 (x3 + 1)) ∧ ((0 ≤ (x3 + 1) ∧ (x3 + 1) < (X.1 : Int)) ∧ Wp X 5 22 0 [vr 6, vi (X.2 (x3 + 1)), vu, vu, vu, vu] [] h (fun v h' => Wp X 17 247 895 [vr 5, vr 6, vr 89, vi x3] (psh v []) h' Q)))) ∧ (((i32 (X.2 x3) &&& i32 31).toInt) ≠ 21 → ((((i32 (X.2 x3) &&& i32 31).toInt) = 22 → ((R32 (x3 + 1)) ∧ ((0 ≤ (x3 + 1) ∧ (x3 + 1) < (X.1 : Int)) ∧ Wp X 2 23 0 [vr 6, vi (X.2 (x3 + 1))] [] h (fun v h' => Wp X 17 247 918 [vr 5, vr 6, vr 89, vi x3] (psh v []) h' Q)))) ∧ (((i32 (X.2 x3) &&& i32 31).toInt) ≠ 22 → ((((i32 (X.2 x3) &&& i32 31).toInt) = 23 → ((R32 (x3 + 1)) ∧ ((0 ≤ (x3 + 1) ∧ (x3 + 1) < (X.1 : Int)) ∧ ((R32 (x3 + 2)) ∧ ((0 ≤ (x3 + 2) ∧ (x3 + 2) < (X.1 : Int)) ∧ ((R32 (x3 + 3)) ∧ ((0 ≤ (x3 + 3) ∧ (x3 + 3) < (X.1 : Int)) ∧ Wp X 2 24 0 [vr 6, vi (X.2 (x3 + 1)), vi (X.2 (x3 + 2)), vi (X.2 (x3 + 3))] [] h (fun v h' => Wp X 17 247 951 [vr 5, vr 6, vr 89, vi x3] (psh v []) h' Q)))))))) ∧ (((i32 (X.2 x3) &&& i32 31).toInt) ≠ 23 → ((((i32 (X.2 x3) &&& i32 31).toInt) = 24 → ((R32 (x3 + 1)) ∧ ((0 ≤ (x3 + 1) ∧ (x3 + 1) < (X.1 : Int)) ∧ Wp X 1 25 0 [vr 6, vi (X.2 (x3 + 1)), vu] [] h (fun v h' => Wp X 17 247 984 [vr 5, vr 6, vr 89, vi x3] (psh v []) h' Q)))) ∧ (((i32 (X.2 x3) &&& i32 31).toInt) ≠ 24 → ((((i32 (X.2 x3) &&& i32 31).toInt) = 25 → ((R32 (x3 + 1)) ∧ ((0 ≤ (x3 + 1) ∧ (x3 + 1) < (X.1 : Int)) ∧ ((R32 (x3 + 2)) ∧ ((0 ≤ (x3 + 2) ∧ (x3 + 2) < (X.1 : Int)) ∧ ((R32 (x3 + 3)) ∧ ((0 ≤ (x3 + 3) ∧ (x3 + 3) < (X.1 : Int)) ∧ ((R32 (x3 + 4)) ∧ ((0 ≤ (x3 + 4) ∧ (x3 + 4) < (X.1 : Int)) ∧ Wp X 2 26 0 [vr 6, vi (X.2 (x3 + 1)), vi (X.2 (x3 + 2)), vi (X.2 (x3 + 3)), vi (X.2 (x3 + 4)), vu] [] h (fun v h' => Wp X 17 247 1022 [vr 5, vr 6, vr 89, vi x3] (psh v []) h' Q)))))))))) ∧ (((i32 (X.2 x3) &&& i32 31).toInt) ≠ 25 → ((((i32 (X.2 x3) &&& i32 31).toInt) = 26 → ((R32 (x3 + 1)) ∧ ((0 ≤ (x3 + 1) ∧ (x3 + 1) < (X.1 : Int)) ∧ ((R32 (x3 + 2)) ∧ ((0 ≤ (x3 + 2) ∧ (x3 + 2) < (X.1 : Int)) ∧ ((R32 (x3 + 3)) ∧ ((0 ≤ (x3 + 3) ∧ (x3 + 3) < (X.1 : Int)) ∧ Wp X 2 27 0 [vr 6, vi (X.2 (x3 + 1)), vi (X.2 (x3 + 2)), vi (X.2 (x3 + 3)), vu] [] h (fun v h' => Wp X 17 247 1070 [vr 5, vr 6, vr 89, vi x3] (psh v []) h' Q)))))))) ∧ (((i32 (X.2 x3) &&& i32 31).toInt) ≠ 26 → ((((i32 (X.2 x3) &&& i32 31).toInt) = 27 → ((R32 (x3 + 1)) ∧ ((0 ≤ (x3 + 1) ∧ (x3 + 1) < (X.1 : Int)) ∧ ((R32 (x3 + 2)) ∧ ((0 ≤ (x3 + 2) ∧ (x3 + 2) < (X.1 : Int)) ∧ ((R32 (x3 + 3)) ∧ ((0 ≤ (x3 + 3) ∧ (x3 + 3) < (X.1 : Int)) ∧ ((R32 (x3 + 4)) ∧ ((0 ≤ (x3 + 4) ∧ (x3 + 4) < (X.1 : Int)) ∧ ((R32 (x3 + 5)) ∧ ((0 ≤ (x3 + 5) ∧ (x3 + 5) < (X.1 : Int)) ∧ Wp X 2 28 0 [vr 6, vi (X.2 (x3 + 1)), vi (X.2 (x3 + 2)), vi (X.2 (x3 + 3)), vi (X.2 (x3 + 4)), vi (X.2 (x3 + 5)), vu, vu] [] h (fun v h' => Wp X 17 247 1123 [vr 5, vr 6, vr 89, vi x3] (psh v []) h' Q)))))))))))) ∧ (((i32 (X.2 x3) &&& i32 31).toInt) ≠ 27 → ((((i32 (X.2 x3) &&& i32 31).toInt) = 28 → ((R32 (x3 + 1)) ∧ ((0 ≤ (x3 + 1) ∧ (x3 + 1) < (X.1 : Int)) ∧ Wp X 3 29 0 [vr 6, vi (X.2 (x3 + 1)), vu, vu, vu] [] h (fun v h' => Wp X 17 247 1166 [vr 5, vr 6, vr 89, vi x3] (psh v []) h' Q)))) ∧ (((i32 (X.2 x3) &&& i32 31).toInt) ≠ 28 → ((((i32 (X.2 x3) &&& i32 31).toInt) = 29 → ((R32 (x3 + 1)) ∧ ((0 ≤ (x3 + 1) ∧ (x3 + 1) < (X.1 : Int)) ∧ Wp X 1 30 0 [vr 6, vi (X.2 (x3 + 1))] [] h (fun v h' => Wp X 17 247 1189 [vr 5, vr 6, vr 89, vi x3] (psh v []) h' Q)))) ∧ (((i32 (X.2 x3) &&& i32 31).toInt) ≠ 29 → ((((i32 (X.2 x3) &&& i32 31).toInt) = 30 → Wp X 16 31 0 [vr 6, vu, vu, vu, vu] [] h (fun v h' => Wp X 17 247 1207 [vr 5, vr 6, vr 89, vi x3] (psh v []) h' Q)) ∧ (((i32 (X.2 x3) &&& i32 31).toInt) ≠ 30 → ((R32 (x3 + 6)) ∧ Wp X 17 247 18 [vr 5, vr 6, vr 89, vi (x3 + 6)] [] h Q)))))))))))))))))))))))))))))))))))))))))))))))))))))))))))))))))))) : Wp X 17 247 18 [vr 5, vr 6, vr 89, vi x3] [] h Q := by
  refine wp_iload rfl rfl ?_
  refine wp_aload rfl rfl ?_
  refine wp_alen rfl ?_
  refine wp_iconst rfl ?_
  refine wp_isub rfl ?_
  have g1 := H.1
  replace H := H.2
  refine Wp.topI (y := ((X.1 : Int) - 6)) (w32_I g1) ?_
  refine wp_icgt (tn := 1223) rfl rfl (fun c2 => ?_) (fun c2 => ?_)
  · replace H := H.1 c2
    refine wp_iconst rfl ?_
    exact wp_zret rfl rfl (by decide) H
  · replace H := H.2 c2
    refine wp_aload rfl rfl ?_
    refine wp_iload rfl rfl ?_
    have g3 := H.1
    replace H := H.2
    refine wp_script rfl g3 ?_
    refine wp_iconst rfl ?_
    refine wp_iand rfl ?_
    by_cases c4 : ((i32 (X.2 x3) &&& i32 31).toInt) = 0
    · replace H := H.1 c4
      refine wp_tabIn (tn := 172) rfl (by rw [c4]; decide) (by rw [c4]; rfl) ?_
      refine wp_aload rfl rfl ?_
      exact wp_call (k := 1) (ρ2 := 2) (L2 := [vr 6]) rfl rfl rfl (Nat.le_of_ble_eq_true rfl) (Nat.le_of_ble_eq_true rfl) (Nat.le_of_ble_eq_true rfl) (rcv_V rfl (congrArg Prod.fst (kf_6 X.1))) rfl H
    replace H := H.2 c4
    by_cases c5 : ((i32 (X.2 x3) &&& i32 31).toInt) = 1
    · replace H := H.1 c5
      refine wp_tabIn (tn := 185) rfl (by rw [c5]; decide) (by rw [c5]; rfl) ?_
      refine wp_aload rfl rfl ?_
      refine wp_aload rfl rfl ?_
      refine wp_iload rfl rfl ?_
      refine wp_iconst rfl ?_
      refine wp_iadd rfl ?_
      have g6 := H.1
      replace H := H.2
      refine Wp.topI (y := (x3 + 1)) (w32_I g6) ?_
      have g7 := H.1
      replace H := H.2
      refine wp_script rfl g7 ?_
      refine wp_aload rfl rfl ?_
      refine wp_iload rfl rfl ?_
      refine wp_iconst rfl ?_
      refine wp_iadd rfl ?_
      have g8 := H.1
      replace H := H.2
      refine Wp.topI (y := (x3 + 2)) (w32_I g8) ?_
      have g9 := H.1
      replace H := H.2
      refine wp_script rfl g9 ?_
      refine wp_aload rfl rfl ?_
      refine wp_iload rfl rfl ?_
      refine wp_iconst rfl ?_
      refine wp_iadd rfl ?_
      have g10 := H.1
      replace H := H.2
      refine Wp.topI (y := (x3 + 3)) (w32_I g10) ?_
      have g11 := H.1
      replace H := H.2
      refine wp_script rfl g11 ?_
      refine wp_aload rfl rfl ?_
      refine wp_iload rfl rfl ?_
      refine wp_iconst rfl ?_
      refine wp_iadd rfl ?_
      have g12 := H.1
      replace H := H.2
      refine Wp.topI (y := (x3 + 4)) (w32_I g12) ?_
      have g13 := H.1
      replace H := H.2
      refine wp_script rfl g13 ?_
      exact wp_call (k := 2) (ρ2 := 6) (L2 := [vr 6, vi (X.2 (x3 + 1)), vi (X.2 (x3 + 2)), vi (X.2 (x3 + 3)), vi (X.2 (x3 + 4))]) rfl rfl rfl (Nat.le_of_ble_eq_true rfl) (Nat.le_of_ble_eq_true rfl) (Nat.le_of_ble_eq_true rfl) (rcv_V rfl (congrArg Prod.fst (kf_6 X.1))) rfl H
    replace H := H.2 c5
    by_cases c14 : ((i32 (X.2 x3) &&& i32 31).toInt) = 2
    · replace H := H.1 c14
      refine wp_tabIn (tn := 238) rfl (by rw [c14]; decide) (by rw [c14]; rfl) ?_
      refine wp_aload rfl rfl ?_
      refine wp_aload rfl rfl ?_
      refine wp_iload rfl rfl ?_
      refine wp_iconst rfl ?_
      refine wp_iadd rfl ?_
      have g15 := H.1
      replace H := H.2
      refine Wp.topI (y := (x3 + 1)) (w32_I g15) ?_
      have g16 := H.1
      replace H := H.2
      refine wp_script rfl g16 ?_
      refine wp_aload rfl rfl ?_
      refine wp_iload rfl rfl ?_
      refine wp_iconst rfl ?_
      refine wp_iadd rfl ?_
      have g17 := H.1
      replace H := H.2
      refine Wp.topI (y := (x3 + 2)) (w32_I g17) ?_
      have g18 := H.1
      replace H := H.2
      refine wp_script rfl g18 ?_
      refine wp_aload rfl rfl ?_
      refine wp_iload rfl rfl ?_
      refine wp_iconst rfl ?_
      refine wp_iadd rfl ?_
      have g19 := H.1
      replace H := H.2
      refine Wp.topI (y := (x3 + 3)) (w32_I g19) ?_
      have g20 := H.1
      replace H := H.2
      refine wp_script rfl g20 ?_
      exact wp_call (k := 3) (ρ2 := 6) (L2 := [vr 6, vi (X.2 (x3 + 1)), vi (X.2 (x3 + 2)), vi (X.2 (x3 + 3)), vu, vu]) rfl rfl rfl (Nat.le_of_ble_eq_true rfl) (Nat.le_of_ble_eq_true rfl) (Nat.le_of_ble_eq_true rfl) (rcv_V rfl (congrArg Prod.fst (kf_6 X.1))) rfl H
    replace H := H.2 c14
    by_cases c21 : ((i32 (X.2 x3) &&& i32 31).toInt) = 3
    · replace H := H.1 c21
      refine wp_tabIn (tn := 281) rfl (by rw [c21]; decide) (by rw [c21]; rfl) ?_
      refine wp_aload rfl rfl ?_
      refine wp_aload rfl rfl ?_
      refine wp_iload rfl rfl ?_
      refine wp_iconst rfl ?_
      refine wp_iadd rfl ?_
      have g22 := H.1
      replace H := H.2
      refine Wp.topI (y := (x3 + 1)) (w32_I g22) ?_
      have g23 := H.1
      replace H := H.2
      refine wp_script rfl g23 ?_
      refine wp_aload rfl rfl ?_
      refine wp_iload rfl rfl ?_
      refine wp_iconst rfl ?_
      refine wp_iadd rfl ?_
      have g24 := H.1
      replace H := H.2
      refine Wp.topI (y := (x3 + 2)) (w32_I g24) ?_
      have g25 := H.1
      replace H := H.2
      refine wp_script rfl g25 ?_
      exact wp_call (k := 4) (ρ2 := 6) (L2 := [vr 6, vi (X.2 (x3 + 1)), vi (X.2 (x3 + 2)), vu]) rfl rfl rfl (Nat.le_of_ble_eq_true rfl) (Nat.le_of_ble_eq_true rfl) (Nat.le_of_ble_eq_true rfl) (rcv_V rfl (congrArg Prod.fst (kf_6 X.1))) rfl H
    replace H := H.2 c21
    by_cases c26 : ((i32 (X.2 x3) &&& i32 31).toInt) = 4
    · replace H := H.1 c26
      refine wp_tabIn (tn := 314) rfl (by rw [c26]; decide) (by rw [c26]; rfl) ?_
      refine wp_aload rfl rfl ?_
      refine wp_aload rfl rfl ?_
      refine wp_iload rfl rfl ?_
      refine wp_iconst rfl ?_
      refine wp_iadd rfl ?_
      have g27 := H.1
      replace H := H.2
      refine Wp.topI (y := (x3 + 1)) (w32_I g27) ?_
      have g28 := H.1
      replace H := H.2
      refine wp_script rfl g28 ?_
      refine wp_aload rfl rfl ?_
      refine wp_iload rfl rfl ?_
      refine wp_iconst rfl ?_
      refine wp_iadd rfl ?_
      have g29 := H.1
      replace H := H.2
      refine Wp.topI (y := (x3 + 2)) (w32_I g29) ?_
      have g30 := H.1
      replace H := H.2
      refine wp_script rfl g30 ?_
      exact wp_call (k := 5) (ρ2 := 2) (L2 := [vr 6, vi (X.2 (x3 + 1)), vi (X.2 (x3 + 2))]) rfl rfl rfl (Nat.le_of_ble_eq_true rfl) (Nat.le_of_ble_eq_true rfl) (Nat.le_of_ble_eq_true rfl) (rcv_V rfl (congrArg Prod.fst (kf_6 X.1))) rfl H
    replace H := H.2 c26
    by_cases c31 : ((i32 (X.2 x3) &&& i32 31).toInt) = 5
    · replace H := H.1 c31
      refine wp_tabIn (tn := 347) rfl (by rw [c31]; decide) (by rw [c31]; rfl) ?_
      refine wp_aload rfl rfl ?_
      refine wp_aload rfl rfl ?_
      refine wp_iload rfl rfl ?_
      refine wp_iconst rfl ?_
      refine wp_iadd rfl ?_
      have g32 := H.1
      replace H := H.2
      refine Wp.topI (y := (x3 + 1)) (w32_I g32) ?_
      have g33 := H.1
      replace H := H.2
      refine wp_script rfl g33 ?_
      refine wp_aload rfl rfl ?_
      refine wp_iload rfl rfl ?_
      refine wp_iconst rfl ?_
      refine wp_iadd rfl ?_
      have g34 := H.1
      replace H := H.2
      refine Wp.topI (y := (x3 + 2)) (w32_I g34) ?_
      have g35 := H.1
      replace H := H.2
      refine wp_script rfl g35 ?_
      refine wp_aload rfl rfl ?_
      refine wp_iload rfl rfl ?_
      refine wp_iconst rfl ?_
      refine wp_iadd rfl ?_
      have g36 := H.1
      replace H := H.2
      refine Wp.topI (y := (x3 + 3)) (w32_I g36) ?_
      have g37 := H.1
      replace H := H.2
      refine wp_script rfl g37 ?_
      exact wp_call (k := 6) (ρ2 := 2) (L2 := [vr 6, vi (X.2 (x3 + 1)), vi (X.2 (x3 + 2)), vi (X.2 (x3 + 3))]) rfl rfl rfl (Nat.le_of_ble_eq_true rfl) (Nat.le_of_ble_eq_true rfl) (Nat.le_of_ble_eq_true rfl) (rcv_V rfl (congrArg Prod.fst (kf_6 X.1))) rfl H
    replace H := H.2 c31
    by_cases c38 : ((i32 (X.2 x3) &&& i32 31).toInt) = 6
    · replace H := H.1 c38
      refine wp_tabIn (tn := 391) rfl (by rw [c38]; decide) (by rw [c38]; rfl) ?_
      refine wp_aload rfl rfl ?_
      refine wp_aload rfl rfl ?_
      refine wp_iload rfl rfl ?_
      refine wp_iconst rfl ?_
      refine wp_iadd rfl ?_
      have g39 := H.1
      replace H := H.2
      refine Wp.topI (y := (x3 + 1)) (w32_I g39) ?_
      have g40 := H.1
      replace H := H.2
      refine wp_script rfl g40 ?_
      refine wp_aload rfl rfl ?_
      refine wp_iload rfl rfl ?_
      refine wp_iconst rfl ?_
      refine wp_iadd rfl ?_
      have g41 := H.1
      replace H := H.2
      refine Wp.topI (y := (x3 + 2)) (w32_I g41) ?_
      have g42 := H.1
      replace H := H.2
      refine wp_script rfl g42 ?_
      exact wp_call (k := 7) (ρ2 := 2) (L2 := [vr 6, vi (X.2 (x3 + 1)), vi (X.2 (x3 + 2))]) rfl rfl rfl (Nat.le_of_ble_eq_true rfl) (Nat.le_of_ble_eq_true rfl) (Nat.le_of_ble_eq_true rfl) (rcv_V rfl (congrArg Prod.fst (kf_6 X.1))) rfl H
    replace H := H.2 c38
    by_cases c43 : ((i32 (X.2 x3) &&& i32 31).toInt) = 7
    · replace H := H.1 c43
      refine wp_tabIn (tn := 425) rfl (by rw [c43]; decide) (by rw [c43]; rfl) ?_
      refine wp_aload rfl rfl ?_
      exact wp_call (k := 8) (ρ2 := 1) (L2 := [vr 6]) rfl rfl rfl (Nat.le_of_ble_eq_true rfl) (Nat.le_of_ble_eq_true rfl) (Nat.le_of_ble_eq_true rfl) (rcv_V rfl (congrArg Prod.fst (kf_6 X.1))) rfl H
    replace H := H.2 c43
    by_cases c44 : ((i32 (X.2 x3) &&& i32 31).toInt) = 8
    · replace H := H.1 c44
      refine wp_tabIn (tn := 438) rfl (by rw [c44]; decide) (by rw [c44]; rfl) ?_
      refine wp_aload rfl rfl ?_
      refine wp_aload rfl rfl ?_
      refine wp_iload rfl rfl ?_
      refine wp_iconst rfl ?_
      refine wp_iadd rfl ?_
      have g45 := H.1
      replace H := H.2
      refine Wp.topI (y := (x3 + 1)) (w32_I g45) ?_
      have g46 := H.1
      replace H := H.2
      refine wp_script rfl g46 ?_
      refine wp_aload rfl rfl ?_
      refine wp_iload rfl rfl ?_
      refine wp_iconst rfl ?_
      refine wp_iadd rfl ?_
      have g47 := H.1
      replace H := H.2
      refine Wp.topI (y := (x3 + 2)) (w32_I g47) ?_
      have g48 := H.1
      replace H := H.2
      refine wp_script rfl g48 ?_
      exact wp_call (k := 9) (ρ2 := 3) (L2 := [vr 6, vi (X.2 (x3 + 1)), vi (X.2 (x3 + 2)), vu]) rfl rfl rfl (Nat.le_of_ble_eq_true rfl) (Nat.le_of_ble_eq_true rfl) (Nat.le_of_ble_eq_true rfl) (rcv_V rfl (congrArg Prod.fst (kf_6 X.1))) rfl H
    replace H := H.2 c44
    by_cases c49 : ((i32 (X.2 x3) &&& i32 31).toInt) = 9
    · replace H := H.1 c49
      refine wp_tabIn (tn := 471) rfl (by rw [c49]; decide) (by rw [c49]; rfl) ?_
      refine wp_aload rfl rfl ?_
      refine wp_aload rfl rfl ?_
      refine wp_iload rfl rfl ?_
      refine wp_iconst rfl ?_
      refine wp_iadd rfl ?_
      have g50 := H.1
      replace H := H.2
      refine Wp.topI (y := (x3 + 1)) (w32_I g50) ?_
      have g51 := H.1
      replace H := H.2
      refine wp_script rfl g51 ?_
      refine wp_aload rfl rfl ?_
      refine wp_iload rfl rfl ?_
      refine wp_iconst rfl ?_
      refine wp_iadd rfl ?_
      have g52 := H.1
      replace H := H.2
      refine Wp.topI (y := (x3 + 2)) (w32_I g52) ?_
      have g53 := H.1
      replace H := H.2
      refine wp_script rfl g53 ?_
      exact wp_call (k := 10) (ρ2 := 6) (L2 := [vr 6, vi (X.2 (x3 + 1)), vi (X.2 (x3 + 2))]) rfl rfl rfl (Nat.le_of_ble_eq_true rfl) (Nat.le_of_ble_eq_true rfl) (Nat.le_of_ble_eq_true rfl) (rcv_V rfl (congrArg Prod.fst (kf_6 X.1))) rfl H
    replace H := H.2 c49
    by_cases c54 : ((i32 (X.2 x3) &&& i32 31).toInt) = 10
    · replace H := H.1 c54
      refine wp_tabIn (tn := 504) rfl (by rw [c54]; decide) (by rw [c54]; rfl) ?_
      refine wp_aload rfl rfl ?_
      refine wp_aload rfl rfl ?_
      refine wp_iload rfl rfl ?_
      refine wp_iconst rfl ?_
      refine wp_iadd rfl ?_
      have g55 := H.1
      replace H := H.2
      refine Wp.topI (y := (x3 + 1)) (w32_I g55) ?_
      have g56 := H.1
      replace H := H.2
      refine wp_script rfl g56 ?_
      exact wp_call (k := 11) (ρ2 := 6) (L2 := [vr 6, vi (X.2 (x3 + 1)), vu]) rfl rfl rfl (Nat.le_of_ble_eq_true rfl) (Nat.le_of_ble_eq_true rfl) (Nat.le_of_ble_eq_true rfl) (rcv_V rfl (congrArg Prod.fst (kf_6 X.1))) rfl H
    replace H := H.2 c54
    by_cases c57 : ((i32 (X.2 x3) &&& i32 31).toInt) = 11
    · replace H := H.1 c57
      refine wp_tabIn (tn := 527) rfl (by rw [c57]; decide) (by rw [c57]; rfl) ?_
      refine wp_aload rfl rfl ?_
      refine wp_aload rfl rfl ?_
      refine wp_iload rfl rfl ?_
      refine wp_iconst rfl ?_
      refine wp_iadd rfl ?_
      have g58 := H.1
      replace H := H.2
      refine Wp.topI (y := (x3 + 1)) (w32_I g58) ?_
      have g59 := H.1
      replace H := H.2
      refine wp_script rfl g59 ?_
      exact wp_call (k := 12) (ρ2 := 1) (L2 := [vr 6, vi (X.2 (x3 + 1))]) rfl rfl rfl (Nat.le_of_ble_eq_true rfl) (Nat.le_of_ble_eq_true rfl) (Nat.le_of_ble_eq_true rfl) (rcv_V rfl (congrArg Prod.fst (kf_6 X.1))) rfl H
    replace H := H.2 c57
    by_cases c60 : ((i32 (X.2 x3) &&& i32 31).toInt) = 12
    · replace H := H.1 c60
      refine wp_tabIn (tn := 550) rfl (by rw [c60]; decide) (by rw [c60]; rfl) ?_
      refine wp_aload rfl rfl ?_
      refine wp_aload rfl rfl ?_
      refine wp_iload rfl rfl ?_
      refine wp_iconst rfl ?_
      refine wp_iadd rfl ?_
      have g61 := H.1
      replace H := H.2
      refine Wp.topI (y := (x3 + 1)) (w32_I g61) ?_
      have g62 := H.1
      replace H := H.2
      refine wp_script rfl g62 ?_
      refine wp_aload rfl rfl ?_
      refine wp_iload rfl rfl ?_
      refine wp_iconst rfl ?_
      refine wp_iadd rfl ?_
      have g63 := H.1
      replace H := H.2
      refine Wp.topI (y := (x3 + 2)) (w32_I g63) ?_
      have g64 := H.1
      replace H := H.2
      refine wp_script rfl g64 ?_
      exact wp_call (k := 13) (ρ2 := 4) (L2 := [vr 6, vi (X.2 (x3 + 1)), vi (X.2 (x3 + 2))]) rfl rfl rfl (Nat.le_of_ble_eq_true rfl) (Nat.le_of_ble_eq_true rfl) (Nat.le_of_ble_eq_true rfl) (rcv_V rfl (congrArg Prod.fst (kf_6 X.1))) rfl H
    replace H := H.2 c60
    by_cases c65 : ((i32 (X.2 x3) &&& i32 31).toInt) = 13
    · replace H := H.1 c65
      refine wp_tabIn (tn := 583) rfl (by rw [c65]; decide) (by rw [c65]; rfl) ?_
      refine wp_aload rfl rfl ?_
      refine wp_aload rfl rfl ?_
      refine wp_iload rfl rfl ?_
      refine wp_iconst rfl ?_
      refine wp_iadd rfl ?_
      have g66 := H.1
      replace H := H.2
      refine Wp.topI (y := (x3 + 1)) (w32_I g66) ?_
      have g67 := H.1
      replace H := H.2
      refine wp_script rfl g67 ?_
      refine wp_aload rfl rfl ?_
      refine wp_iload rfl rfl ?_
      refine wp_iconst rfl ?_
      refine wp_iadd rfl ?_
      have g68 := H.1
      replace H := H.2
      refine Wp.topI (y := (x3 + 2)) (w32_I g68) ?_
      have g69 := H.1
      replace H := H.2
      refine wp_script rfl g69 ?_
      exact wp_call (k := 14) (ρ2 := 15) (L2 := [vr 6, vi (X.2 (x3 + 1)), vi (X.2 (x3 + 2))]) rfl rfl rfl (Nat.le_of_ble_eq_true rfl) (Nat.le_of_ble_eq_true rfl) (Nat.le_of_ble_eq_true rfl) (rcv_V rfl (congrArg Prod.fst (kf_6 X.1))) rfl H
    replace H := H.2 c65
    by_cases c70 : ((i32 (X.2 x3) &&& i32 31).toInt) = 14
    · replace H := H.1 c70
      refine wp_tabIn (tn := 616) rfl (by rw [c70]; decide) (by rw [c70]; rfl) ?_
      refine wp_aload rfl rfl ?_
      refine wp_aload rfl rfl ?_
      refine wp_iload rfl rfl ?_
      refine wp_iconst rfl ?_
      refine wp_iadd rfl ?_
      have g71 := H.1
      replace H := H.2
      refine Wp.topI (y := (x3 + 1)) (w32_I g71) ?_
      have g72 := H.1
      replace H := H.2
      refine wp_script rfl g72 ?_
      exact wp_call (k := 15) (ρ2 := 3) (L2 := [vr 6, vi (X.2 (x3 + 1)), vu]) rfl rfl rfl (Nat.le_of_ble_eq_true rfl) (Nat.le_of_ble_eq_true rfl) (Nat.le_of_ble_eq_true rfl) (rcv_V rfl (congrArg Prod.fst (kf_6 X.1))) rfl H
    replace H := H.2 c70
    by_cases c73 : ((i32 (X.2 x3) &&& i32 31).toInt) = 15
    · replace H := H.1 c73
      refine wp_tabIn (tn := 639) rfl (by rw [c73]; decide) (by rw [c73]; rfl) ?_
      refine wp_aload rfl rfl ?_
      refine wp_aload rfl rfl ?_
      refine wp_iload rfl rfl ?_
      refine wp_iconst rfl ?_
      refine wp_iadd rfl ?_
      have g74 := H.1
      replace H := H.2
      refine Wp.topI (y := (x3 + 1)) (w32_I g74) ?_
      have g75 := H.1
      replace H := H.2
      refine wp_script rfl g75 ?_
      exact wp_call (k := 16) (ρ2 := 1) (L2 := [vr 6, vi (X.2 (x3 + 1))]) rfl rfl rfl (Nat.le_of_ble_eq_true rfl) (Nat.le_of_ble_eq_true rfl) (Nat.le_of_ble_eq_true rfl) (rcv_V rfl (congrArg Prod.fst (kf_6 X.1))) rfl H
    replace H := H.2 c73
    by_cases c76 : ((i32 (X.2 x3) &&& i32 31).toInt) = 16
    · replace H := H.1 c76
      refine wp_tabIn (tn := 662) rfl (by rw [c76]; decide) (by rw [c76]; rfl) ?_
      refine wp_aload rfl rfl ?_
      refine wp_aload rfl rfl ?_
      refine wp_iload rfl rfl ?_
      refine wp_iconst rfl ?_
      refine wp_iadd rfl ?_
      have g77 := H.1
      replace H := H.2
      refine Wp.topI (y := (x3 + 1)) (w32_I g77) ?_
      have g78 := H.1
      replace H := H.2
      refine wp_script rfl g78 ?_
      refine wp_aload rfl rfl ?_
      refine wp_iload rfl rfl ?_
      refine wp_iconst rfl ?_
      refine wp_iadd rfl ?_
      have g79 := H.1
      replace H := H.2
      refine Wp.topI (y := (x3 + 2)) (w32_I g79) ?_
      have g80 := H.1
      replace H := H.2
      refine wp_script rfl g80 ?_
      refine wp_aload rfl rfl ?_
      refine wp_iload rfl rfl ?_
      refine wp_iconst rfl ?_
      refine wp_iadd rfl ?_
      have g81 := H.1
      replace H := H.2
      refine Wp.topI (y := (x3 + 3)) (w32_I g81) ?_
      have g82 := H.1
      replace H := H.2
      refine wp_script rfl g82 ?_
      refine wp_aload rfl rfl ?_
      refine wp_iload rfl rfl ?_
      refine wp_iconst rfl ?_
      refine wp_iadd rfl ?_
      have g83 := H.1
      replace H := H.2
      refine Wp.topI (y := (x3 + 4)) (w32_I g83) ?_
      have g84 := H.1
      replace H := H.2
      refine wp_script rfl g84 ?_
      refine wp_ifeq (tn := 690) rfl rfl (fun c85 => ?_) (fun c85 => ?_)
      · replace H := H.1 c85
        refine wp_iconst rfl ?_
        refine wp_aload rfl rfl ?_
        refine wp_iload rfl rfl ?_
        refine wp_iconst rfl ?_
        refine wp_iadd rfl ?_
        have g86 := H.1
        replace H := H.2
        refine Wp.topI (y := (x3 + 5)) (w32_I g86) ?_
        have g87 := H.1
        replace H := H.2
        refine wp_script rfl g87 ?_
        exact wp_call (k := 17) (ρ2 := 4) (L2 := [vr 6, vi (X.2 (x3 + 1)), vi (X.2 (x3 + 2)), vi (X.2 (x3 + 3)), vi 0, vi (X.2 (x3 + 5))]) rfl rfl rfl (Nat.le_of_ble_eq_true rfl) (Nat.le_of_ble_eq_true rfl) (Nat.le_of_ble_eq_true rfl) (rcv_V rfl (congrArg Prod.fst (kf_6 X.1))) rfl H
      · replace H := H.2 c85
        refine wp_iconst rfl ?_
        refine wp_goto (tn := 691) rfl rfl ?_
        refine wp_aload rfl rfl ?_
        refine wp_iload rfl rfl ?_
        refine wp_iconst rfl ?_
        refine wp_iadd rfl ?_
        have g88 := H.1
        replace H := H.2
        refine Wp.topI (y := (x3 + 5)) (w32_I g88) ?_
        have g89 := H.1
        replace H := H.2
        refine wp_script rfl g89 ?_
        exact wp_call (k := 17) (ρ2 := 4) (L2 := [vr 6, vi (X.2 (x3 + 1)), vi (X.2 (x3 + 2)), vi (X.2 (x3 + 3)), vi 1, vi (X.2 (x3 + 5))]) rfl rfl rfl (Nat.le_of_ble_eq_true rfl) (Nat.le_of_ble_eq_true rfl) (Nat.le_of_ble_eq_true rfl) (rcv_V rfl (congrArg Prod.fst (kf_6 X.1))) rfl H
    replace H := H.2 c76
    by_cases c90 : ((i32 (X.2 x3) &&& i32 31).toInt) = 17
    · replace H := H.1 c90
      refine wp_tabIn (tn := 742) rfl (by rw [c90]; decide) (by rw [c90]; rfl) ?_
      refine wp_aload rfl rfl ?_
      refine wp_aload rfl rfl ?_
      refine wp_iload rfl rfl ?_
      refine wp_iconst rfl ?_
      refine wp_iadd rfl ?_
      have g91 := H.1
      replace H := H.2
      refine Wp.topI (y := (x3 + 1)) (w32_I g91) ?_
      have g92 := H.1
      replace H := H.2
      refine wp_script rfl g92 ?_
      refine wp_aload rfl rfl ?_
      refine wp_iload rfl rfl ?_
      refine wp_iconst rfl ?_
      refine wp_iadd rfl ?_
      have g93 := H.1
      replace H := H.2
      refine Wp.topI (y := (x3 + 2)) (w32_I g93) ?_
      have g94 := H.1
      replace H := H.2
      refine wp_script rfl g94 ?_
      refine wp_aload rfl rfl ?_
      refine wp_iload rfl rfl ?_
      refine wp_iconst rfl ?_
      refine wp_iadd rfl ?_
      have g95 := H.1
      replace H := H.2
      refine Wp.topI (y := (x3 + 3)) (w32_I g95) ?_
      have g96 := H.1
      replace H := H.2
      refine wp_script rfl g96 ?_
      exact wp_call (k := 18) (ρ2 := 5) (L2 := [vr 6, vi (X.2 (x3 + 1)), vi (X.2 (x3 + 2)), vi (X.2 (x3 + 3)), vu, vu, vu, vu]) rfl rfl rfl (Nat.le_of_ble_eq_true rfl) (Nat.le_of_ble_eq_true rfl) (Nat.le_of_ble_eq_true rfl) (rcv_V rfl (congrArg Prod.fst (kf_6 X.1))) rfl H
    replace H := H.2 c90
    by_cases c97 : ((i32 (X.2 x3) &&& i32 31).toInt) = 18
    · replace H := H.1 c97
      refine wp_tabIn (tn := 786) rfl (by rw [c97]; decide) (by rw [c97]; rfl) ?_
      refine wp_aload rfl rfl ?_
      refine wp_aload rfl rfl ?_
      refine wp_iload rfl rfl ?_
      refine wp_iconst rfl ?_
      refine wp_iadd rfl ?_
      have g98 := H.1
      replace H := H.2
      refine Wp.topI (y := (x3 + 1)) (w32_I g98) ?_
      have g99 := H.1
      replace H := H.2
      refine wp_script rfl g99 ?_
      refine wp_aload rfl rfl ?_
      refine wp_iload rfl rfl ?_
      refine wp_iconst rfl ?_
      refine wp_iadd rfl ?_
      have g100 := H.1
      replace H := H.2
      refine Wp.topI (y := (x3 + 2)) (w32_I g100) ?_
      have g101 := H.1
      replace H := H.2
      refine wp_script rfl g101 ?_
      refine wp_aload rfl rfl ?_
      refine wp_iload rfl rfl ?_
      refine wp_iconst rfl ?_
      refine wp_iadd rfl ?_
      have g102 := H.1
      replace H := H.2
      refine Wp.topI (y := (x3 + 3)) (w32_I g102) ?_
      have g103 := H.1
      replace H := H.2
      refine wp_script rfl g103 ?_
      exact wp_call (k := 19) (ρ2 := 3) (L2 := [vr 6, vi (X.2 (x3 + 1)), vi (X.2 (x3 + 2)), vi (X.2 (x3 + 3))]) rfl rfl rfl (Nat.le_of_ble_eq_true rfl) (Nat.le_of_ble_eq_true rfl) (Nat.le_of_ble_eq_true rfl) (rcv_V rfl (congrArg Prod.fst (kf_6 X.1))) rfl H
    replace H := H.2 c97
    by_cases c104 : ((i32 (X.2 x3) &&& i32 31).toInt) = 19
    · replace H := H.1 c104
      refine wp_tabIn (tn := 830) rfl (by rw [c104]; decide) (by rw [c104]; rfl) ?_
      refine wp_aload rfl rfl ?_
      refine wp_aload rfl rfl ?_
      refine wp_iload rfl rfl ?_
      refine wp_iconst rfl ?_
      refine wp_iadd rfl ?_
      have g105 := H.1
      replace H := H.2
      refine Wp.topI (y := (x3 + 1)) (w32_I g105) ?_
      have g106 := H.1
      replace H := H.2
      refine wp_script rfl g106 ?_
      exact wp_call (k := 20) (ρ2 := 3) (L2 := [vr 6, vi (X.2 (x3 + 1)), vu, vu, vu, vu]) rfl rfl rfl (Nat.le_of_ble_eq_true rfl) (Nat.le_of_ble_eq_true rfl) (Nat.le_of_ble_eq_true rfl) (rcv_V rfl (congrArg Prod.fst (kf_6 X.1))) rfl H
    replace H := H.2 c104
    by_cases c107 : ((i32 (X.2 x3) &&& i32 31).toInt) = 20
    · replace H := H.1 c107
      refine wp_tabIn (tn := 853) rfl (by rw [c107]; decide) (by rw [c107]; rfl) ?_
      refine wp_aload rfl rfl ?_
      refine wp_aload rfl rfl ?_
      refine wp_iload rfl rfl ?_
      refine wp_iconst rfl ?_
      refine wp_iadd rfl ?_
      have g108 := H.1
      replace H := H.2
      refine Wp.topI (y := (x3 + 1)) (w32_I g108) ?_
      have g109 := H.1
      replace H := H.2
      refine wp_script rfl g109 ?_
      refine wp_aload rfl rfl ?_
      refine wp_iload rfl rfl ?_
      refine wp_iconst rfl ?_
      refine wp_iadd rfl ?_
      have g110 := H.1
      replace H := H.2
      refine Wp.topI (y := (x3 + 2)) (w32_I g110) ?_
      have g111 := H.1
      replace H := H.2
      refine wp_script rfl g111 ?_
      exact wp_call (k := 21) (ρ2 := 2) (L2 := [vr 6, vi (X.2 (x3 + 1)), vi (X.2 (x3 + 2))]) rfl rfl rfl (Nat.le_of_ble_eq_true rfl) (Nat.le_of_ble_eq_true rfl) (Nat.le_of_ble_eq_true rfl) (rcv_V rfl (congrArg Prod.fst (kf_6 X.1))) rfl H
    replace H := H.2 c107
    by_cases c112 : ((i32 (X.2 x3) &&& i32 31).toInt) = 21
    · replace H := H.1 c112
      refine wp_tabIn (tn := 886) rfl (by rw [c112]; decide) (by rw [c112]; rfl) ?_
      refine wp_aload rfl rfl ?_
      refine wp_aload rfl rfl ?_
      refine wp_iload rfl rfl ?_
      refine wp_iconst rfl ?_
      refine wp_iadd rfl ?_
      have g113 := H.1
      replace H := H.2
      refine Wp.topI (y := (x3 + 1)) (w32_I g113) ?_
      have g114 := H.1
      replace H := H.2
      refine wp_script rfl g114 ?_
      exact wp_call (k := 22) (ρ2 := 5) (L2 := [vr 6, vi (X.2 (x3 + 1)), vu, vu, vu, vu]) rfl rfl rfl (Nat.le_of_ble_eq_true rfl) (Nat.le_of_ble_eq_true rfl) (Nat.le_of_ble_eq_true rfl) (rcv_V rfl (congrArg Prod.fst (kf_6 X.1))) rfl H
    replace H := H.2 c112
    by_cases c115 : ((i32 (X.2 x3) &&& i32 31).toInt) = 22
    · replace H := H.1 c115
      refine wp_tabIn (tn := 909) rfl (by rw [c115]; decide) (by rw [c115]; rfl) ?_
      refine wp_aload rfl rfl ?_
      refine wp_aload rfl rfl ?_
      refine wp_iload rfl rfl ?_
      refine wp_iconst rfl ?_
      refine wp_iadd rfl ?_
      have g116 := H.1
      replace H := H.2
      refine Wp.topI (y := (x3 + 1)) (w32_I g116) ?_
      have g117 := H.1
      replace H := H.2
      refine wp_script rfl g117 ?_
      exact wp_call (k := 23) (ρ2 := 2) (L2 := [vr 6, vi (X.2 (x3 + 1))]) rfl rfl rfl (Nat.le_of_ble_eq_true rfl) (Nat.le_of_ble_eq_true rfl) (Nat.le_of_ble_eq_true rfl) (rcv_V rfl (congrArg Prod.fst (kf_6 X.1))) rfl H
    replace H := H.2 c115
    by_cases c118 : ((i32 (X.2 x3) &&& i32 31).toInt) = 23
    · replace H := H.1 c118
      refine wp_tabIn (tn := 932) rfl (by rw [c118]; decide) (by rw [c118]; rfl) ?_
      refine wp_aload rfl rfl ?_
      refine wp_aload rfl rfl ?_
      refine wp_iload rfl rfl ?_
      refine wp_iconst rfl ?_
      refine wp_iadd rfl ?_
      have g119 := H.1
      replace H := H.2
      refine Wp.topI (y := (x3 + 1)) (w32_I g119) ?_
      have g120 := H.1
      replace H := H.2
      refine wp_script rfl g120 ?_
      refine wp_aload rfl rfl ?_
      refine wp_iload rfl rfl ?_
      refine wp_iconst rfl ?_
      refine wp_iadd rfl ?_
      have g121 := H.1
      replace H := H.2
      refine Wp.topI (y := (x3 + 2)) (w32_I g121) ?_
      have g122 := H.1
      replace H := H.2
      refine wp_script rfl g122 ?_
      refine wp_aload rfl rfl ?_
      refine wp_iload rfl rfl ?_
      refine wp_iconst rfl ?_
      refine wp_iadd rfl ?_
      have g123 := H.1
      replace H := H.2
      refine Wp.topI (y := (x3 + 3)) (w32_I g123) ?_
      have g124 := H.1
      replace H := H.2
      refine wp_script rfl g124 ?_
      exact wp_call (k := 24) (ρ2 := 2) (L2 := [vr 6, vi (X.2 (x3 + 1)), vi (X.2 (x3 + 2)), vi (X.2 (x3 + 3))]) rfl rfl rfl (Nat.le_of_ble_eq_true rfl) (Nat.le_of_ble_eq_true rfl) (Nat.le_of_ble_eq_true rfl) (rcv_V rfl (congrArg Prod.fst (kf_6 X.1))) rfl H
    replace H := H.2 c118
    by_cases c125 : ((i32 (X.2 x3) &&& i32 31).toInt) = 24
    · replace H := H.1 c125
      refine wp_tabIn (tn := 975) rfl (by rw [c125]; decide) (by rw [c125]; rfl) ?_
      refine wp_aload rfl rfl ?_
      refine wp_aload rfl rfl ?_
      refine wp_iload rfl rfl ?_
      refine wp_iconst rfl ?_
      refine wp_iadd rfl ?_
      have g126 := H.1
      replace H := H.2
      refine Wp.topI (y := (x3 + 1)) (w32_I g126) ?_
      have g127 := H.1
      replace H := H.2
      refine wp_script rfl g127 ?_
      exact wp_call (k := 25) (ρ2 := 1) (L2 := [vr 6, vi (X.2 (x3 + 1)), vu]) rfl rfl rfl (Nat.le_of_ble_eq_true rfl) (Nat.le_of_ble_eq_true rfl) (Nat.le_of_ble_eq_true rfl) (rcv_V rfl (congrArg Prod.fst (kf_6 X.1))) rfl H
    replace H := H.2 c125
    by_cases c128 : ((i32 (X.2 x3) &&& i32 31).toInt) = 25
    · replace H := H.1 c128
      refine wp_tabIn (tn := 998) rfl (by rw [c128]; decide) (by rw [c128]; rfl) ?_
      refine wp_aload rfl rfl ?_
      refine wp_aload rfl rfl ?_
      refine wp_iload rfl rfl ?_
      refine wp_iconst rfl ?_
      refine wp_iadd rfl ?_
      have g129 := H.1
      replace H := H.2
      refine Wp.topI (y := (x3 + 1)) (w32_I g129) ?_
      have g130 := H.1
      replace H := H.2
      refine wp_script rfl g130 ?_
      refine wp_aload rfl rfl ?_
      refine wp_iload rfl rfl ?_
      refine wp_iconst rfl ?_
      refine wp_iadd rfl ?_
      have g131 := H.1
      replace H := H.2
      refine Wp.topI (y := (x3 + 2)) (w32_I g131) ?_
      have g132 := H.1
      replace H := H.2
      refine wp_script rfl g132 ?_
      refine wp_aload rfl rfl ?_
      refine wp_iload rfl rfl ?_
      refine wp_iconst rfl ?_
      refine wp_iadd rfl ?_
      have g133 := H.1
      replace H := H.2
      refine Wp.topI (y := (x3 + 3)) (w32_I g133) ?_
      have g134 := H.1
      replace H := H.2
      refine wp_script rfl g134 ?_
      refine wp_aload rfl rfl ?_
      refine wp_iload rfl rfl ?_
      refine wp_iconst rfl ?_
      refine wp_iadd rfl ?_
      have g135 := H.1
      replace H := H.2
      refine Wp.topI (y := (x3 + 4)) (w32_I g135) ?_
      have g136 := H.1
      replace H := H.2
      refine wp_script rfl g136 ?_
      exact wp_call (k := 26) (ρ2 := 2) (L2 := [vr 6, vi (X.2 (x3 + 1)), vi (X.2 (x3 + 2)), vi (X.2 (x3 + 3)), vi (X.2 (x3 + 4)), vu]) rfl rfl rfl (Nat.le_of_ble_eq_true rfl) (Nat.le_of_ble_eq_true rfl) (Nat.le_of_ble_eq_true rfl) (rcv_V rfl (congrArg Prod.fst (kf_6 X.1))) rfl H
    replace H := H.2 c128
    by_cases c137 : ((i32 (X.2 x3) &&& i32 31).toInt) = 26
    · replace H := H.1 c137
      refine wp_tabIn (tn := 1051) rfl (by rw [c137]; decide) (by rw [c137]; rfl) ?_
      refine wp_aload rfl rfl ?_
      refine wp_aload rfl rfl ?_
      refine wp_iload rfl rfl ?_
      refine wp_iconst rfl ?_
      refine wp_iadd rfl ?_
      have g138 := H.1
      replace H := H.2
      refine Wp.topI (y := (x3 + 1)) (w32_I g138) ?_
      have g139 := H.1
      replace H := H.2
      refine wp_script rfl g139 ?_
      refine wp_aload rfl rfl ?_
      refine wp_iload rfl rfl ?_
      refine wp_iconst rfl ?_
      refine wp_iadd rfl ?_
      have g140 := H.1
      replace H := H.2
      refine Wp.topI (y := (x3 + 2)) (w32_I g140) ?_
      have g141 := H.1
      replace H := H.2
      refine wp_script rfl g141 ?_
      refine wp_aload rfl rfl ?_
      refine wp_iload rfl rfl ?_
      refine wp_iconst rfl ?_
      refine wp_iadd rfl ?_
      have g142 := H.1
      replace H := H.2
      refine Wp.topI (y := (x3 + 3)) (w32_I g142) ?_
      have g143 := H.1
      replace H := H.2
      refine wp_script rfl g143 ?_
      exact wp_call (k := 27) (ρ2 := 2) (L2 := [vr 6, vi (X.2 (x3 + 1)), vi (X.2 (x3 + 2)), vi (X.2 (x3 + 3)), vu]) rfl rfl rfl (Nat.le_of_ble_eq_true rfl) (Nat.le_of_ble_eq_true rfl) (Nat.le_of_ble_eq_true rfl) (rcv_V rfl (congrArg Prod.fst (kf_6 X.1))) rfl H
    replace H := H.2 c137
    by_cases c144 : ((i32 (X.2 x3) &&& i32 31).toInt) = 27
    · replace H := H.1 c144
      refine wp_tabIn (tn := 1094) rfl (by rw [c144]; decide) (by rw [c144]; rfl) ?_
      refine wp_aload rfl rfl ?_
      refine wp_aload rfl rfl ?_
      refine wp_iload rfl rfl ?_
      refine wp_iconst rfl ?_
      refine wp_iadd rfl ?_
      have g145 := H.1
      replace H := H.2
      refine Wp.topI (y := (x3 + 1)) (w32_I g145) ?_
      have g146 := H.1
      replace H := H.2
      refine wp_script rfl g146 ?_
      refine wp_aload rfl rfl ?_
      refine wp_iload rfl rfl ?_
      refine wp_iconst rfl ?_
      refine wp_iadd rfl ?_
      have g147 := H.1
      replace H := H.2
      refine Wp.topI (y := (x3 + 2)) (w32_I g147) ?_
      have g148 := H.1
      replace H := H.2
      refine wp_script rfl g148 ?_
      refine wp_aload rfl rfl ?_
      refine wp_iload rfl rfl ?_
      refine wp_iconst rfl ?_
      refine wp_iadd rfl ?_
      have g149 := H.1
      replace H := H.2
      refine Wp.topI (y := (x3 + 3)) (w32_I g149) ?_
      have g150 := H.1
      replace H := H.2
      refine wp_script rfl g150 ?_
      refine wp_aload rfl rfl ?_
      refine wp_iload rfl rfl ?_
      refine wp_iconst rfl ?_
      refine wp_iadd rfl ?_
      have g151 := H.1
      replace H := H.2
      refine Wp.topI (y := (x3 + 4)) (w32_I g151) ?_
      have g152 := H.1
      replace H := H.2
      refine wp_script rfl g152 ?_
      refine wp_aload rfl rfl ?_
      refine wp_iload rfl rfl ?_
      refine wp_iconst rfl ?_
      refine wp_iadd rfl ?_
      have g153 := H.1
      replace H := H.2
      refine Wp.topI (y := (x3 + 5)) (w32_I g153) ?_
      have g154 := H.1
      replace H := H.2
      refine wp_script rfl g154 ?_
      exact wp_call (k := 28) (ρ2 := 2) (L2 := [vr 6, vi (X.2 (x3 + 1)), vi (X.2 (x3 + 2)), vi (X.2 (x3 + 3)), vi (X.2 (x3 + 4)), vi (X.2 (x3 + 5)), vu, vu]) rfl rfl rfl (Nat.le_of_ble_eq_true rfl) (Nat.le_of_ble_eq_true rfl) (Nat.le_of_ble_eq_true rfl) (rcv_V rfl (congrArg Prod.fst (kf_6 X.1))) rfl H
    replace H := H.2 c144
    by_cases c155 : ((i32 (X.2 x3) &&& i32 31).toInt) = 28
    · replace H := H.1 c155
      refine wp_tabIn (tn := 1157) rfl (by rw [c155]; decide) (by rw [c155]; rfl) ?_
      refine wp_aload rfl rfl ?_
      refine wp_aload rfl rfl ?_
      refine wp_iload rfl rfl ?_
      refine wp_iconst rfl ?_
      refine wp_iadd rfl ?_
      have g156 := H.1
      replace H := H.2
      refine Wp.topI (y := (x3 + 1)) (w32_I g156) ?_
      have g157 := H.1
      replace H := H.2
      refine wp_script rfl g157 ?_
      exact wp_call (k := 29) (ρ2 := 3) (L2 := [vr 6, vi (X.2 (x3 + 1)), vu, vu, vu]) rfl rfl rfl (Nat.le_of_ble_eq_true rfl) (Nat.le_of_ble_eq_true rfl) (Nat.le_of_ble_eq_true rfl) (rcv_V rfl (congrArg Prod.fst (kf_6 X.1))) rfl H
    replace H := H.2 c155
    by_cases c158 : ((i32 (X.2 x3) &&& i32 31).toInt) = 29
    · replace H := H.1 c158
      refine wp_tabIn (tn := 1180) rfl (by rw [c158]; decide) (by rw [c158]; rfl) ?_
      refine wp_aload rfl rfl ?_
      refine wp_aload rfl rfl ?_
      refine wp_iload rfl rfl ?_
      refine wp_iconst rfl ?_
      refine wp_iadd rfl ?_
      have g159 := H.1
      replace H := H.2
      refine Wp.topI (y := (x3 + 1)) (w32_I g159) ?_
      have g160 := H.1
      replace H := H.2
      refine wp_script rfl g160 ?_
      exact wp_call (k := 30) (ρ2 := 1) (L2 := [vr 6, vi (X.2 (x3 + 1))]) rfl rfl rfl (Nat.le_of_ble_eq_true rfl) (Nat.le_of_ble_eq_true rfl) (Nat.le_of_ble_eq_true rfl) (rcv_V rfl (congrArg Prod.fst (kf_6 X.1))) rfl H
    replace H := H.2 c158
    by_cases c161 : ((i32 (X.2 x3) &&& i32 31).toInt) = 30
    · replace H := H.1 c161
      refine wp_tabIn (tn := 1203) rfl (by rw [c161]; decide) (by rw [c161]; rfl) ?_
      refine wp_aload rfl rfl ?_
      exact wp_call (k := 31) (ρ2 := 16) (L2 := [vr 6, vu, vu, vu, vu]) rfl rfl rfl (Nat.le_of_ble_eq_true rfl) (Nat.le_of_ble_eq_true rfl) (Nat.le_of_ble_eq_true rfl) (rcv_V rfl (congrArg Prod.fst (kf_6 X.1))) rfl H
    replace H := H.2 c161
    refine wp_tabOut (tn := 1217) rfl (by clear H; omega) rfl ?_
    have g163 := H.1
    replace H := H.2
    refine wp_iincR (L2 := [vr 5, vr 6, vr 89, vi (x3 + 6)]) rfl rfl g163 rfl ?_
    refine wp_goto (tn := 18) rfl rfl ?_
    exact H
theorem S247_176 {X : Nat × (Int → Int)} {h : HP} {Q : bQ} (x3 : Int) (s0 : Int) (H : Wp X 0 65 0 [vr 89] [] h (fun v h' => Wp X 17 247 180 [vr 5, vr 6, vr 89, vi x3] (psh v [vi s0]) h' Q)) : Wp X 17 247 176 [vr 5, vr 6, vr 89, vi x3] [vi s0] h Q := by
  refine wp_aload rfl rfl ?_
  exact wp_call (k := 65) (ρ2 := 0) (L2 := [vr 89]) rfl rfl rfl (Nat.le_of_ble_eq_true rfl) (Nat.le_of_ble_eq_true rfl) (Nat.le_of_ble_eq_true rfl) (rcv_V rfl (congrArg Prod.fst (kf_89 X.1))) rfl H
theorem S247_180 {X : Nat × (Int → Int)} {h : HP} {Q : bQ} (x3 : Int) (s0 : Int) (s1 : Int) (H : ((s1 = s0 → ((R32 (x3 + 6)) ∧ Wp X 17 247 18 [vr 5, vr 6, vr 89, vi (x3 + 6)] [] h Q)) ∧ (s1 ≠ s0 → Q (some (vi 0)) h))) : Wp X 17 247 180 [vr 5, vr 6, vr 89, vi x3] [vi s0, vi s1] h Q := by
  refine wp_iceq (tn := 1217) rfl rfl (fun c1 => ?_) (fun c1 => ?_)
  · replace H := H.1 c1
    have g2 := H.1
    replace H := H.2
    refine wp_iincR (L2 := [vr 5, vr 6, vr 89, vi (x3 + 6)]) rfl rfl g2 rfl ?_
    refine wp_goto (tn := 18) rfl rfl ?_
    exact H
  · replace H := H.2 c1
    refine wp_iconst rfl ?_
    exact wp_zret rfl rfl (by decide) H
theorem S247_209 {X : Nat × (Int → Int)} {h : HP} {Q : bQ} (x3 : Int) (s0 : Int) (H : ((R32 (x3 + 1)) ∧ ((0 ≤ (x3 + 1) ∧ (x3 + 1) < (X.1 : Int)) ∧ ((R32 (x3 + 2)) ∧ ((0 ≤ (x3 + 2) ∧ (x3 + 2) < (X.1 : Int)) ∧ ((R32 (x3 + 3)) ∧ ((0 ≤ (x3 + 3) ∧ (x3 + 3) < (X.1 : Int)) ∧ ((R32 (x3 + 4)) ∧ ((0 ≤ (x3 + 4) ∧ (x3 + 4) < (X.1 : Int)) ∧ Wp X 2 66 0 [vr 89, vi (X.2 (x3 + 1)), vi (X.2 (x3 + 2)), vi (X.2 (x3 + 3)), vi (X.2 (x3 + 4))] [] h (fun v h' => Wp X 17 247 233 [vr 5, vr 6, vr 89, vi x3] (psh v [vi s0]) h' Q)))))))))) : Wp X 17 247 209 [vr 5, vr 6, vr 89, vi x3] [vi s0] h Q := by
  refine wp_aload rfl rfl ?_
  refine wp_aload rfl rfl ?_
  refine wp_iload rfl rfl ?_
  refine wp_iconst rfl ?_
  refine wp_iadd rfl ?_
  have g1 := H.1
  replace H := H.2
  refine Wp.topI (y := (x3 + 1)) (w32_I g1) ?_
  have g2 := H.1
  replace H := H.2
  refine wp_script rfl g2 ?_
  refine wp_aload rfl rfl ?_
  refine wp_iload rfl rfl ?_
  refine wp_iconst rfl ?_
  refine wp_iadd rfl ?_
  have g3 := H.1
  replace H := H.2
  refine Wp.topI (y := (x3 + 2)) (w32_I g3) ?_
  have g4 := H.1
  replace H := H.2
  refine wp_script rfl g4 ?_
  refine wp_aload rfl rfl ?_
  refine wp_iload rfl rfl ?_
  refine wp_iconst rfl ?_
  refine wp_iadd rfl ?_
  have g5 := H.1
  replace H := H.2
  refine Wp.topI (y := (x3 + 3)) (w32_I g5) ?_
  have g6 := H.1
  replace H := H.2
  refine wp_script rfl g6 ?_
  refine wp_aload rfl rfl ?_
  refine wp_iload rfl rfl ?_
  refine wp_iconst rfl ?_
  refine wp_iadd rfl ?_
  have g7 := H.1
  replace H := H.2
  refine Wp.topI (y := (x3 + 4)) (w32_I g7) ?_
  have g8 := H.1
  replace H := H.2
  refine wp_script rfl g8 ?_
  exact wp_call (k := 66) (ρ2 := 2) (L2 := [vr 89, vi (X.2 (x3 + 1)), vi (X.2 (x3 + 2)), vi (X.2 (x3 + 3)), vi (X.2 (x3 + 4))]) rfl rfl rfl (Nat.le_of_ble_eq_true rfl) (Nat.le_of_ble_eq_true rfl) (Nat.le_of_ble_eq_true rfl) (rcv_V rfl (congrArg Prod.fst (kf_89 X.1))) rfl H
theorem S247_233 {X : Nat × (Int → Int)} {h : HP} {Q : bQ} (x3 : Int) (s0 : Int) (s1 : Int) (H : ((s1 = s0 → ((R32 (x3 + 6)) ∧ Wp X 17 247 18 [vr 5, vr 6, vr 89, vi (x3 + 6)] [] h Q)) ∧ (s1 ≠ s0 → Q (some (vi 0)) h))) : Wp X 17 247 233 [vr 5, vr 6, vr 89, vi x3] [vi s0, vi s1] h Q := by
  refine wp_iceq (tn := 1217) rfl rfl (fun c1 => ?_) (fun c1 => ?_)
  · replace H := H.1 c1
    have g2 := H.1
    replace H := H.2
    refine wp_iincR (L2 := [vr 5, vr 6, vr 89, vi (x3 + 6)]) rfl rfl g2 rfl ?_
    refine wp_goto (tn := 18) rfl rfl ?_
    exact H
  · replace H := H.2 c1
    refine wp_iconst rfl ?_
    exact wp_zret rfl rfl (by decide) H
theorem S247_257 {X : Nat × (Int → Int)} {h : HP} {Q : bQ} (x3 : Int) (s0 : Int) (H : ((R32 (x3 + 1)) ∧ ((0 ≤ (x3 + 1) ∧ (x3 + 1) < (X.1 : Int)) ∧ ((R32 (x3 + 2)) ∧ ((0 ≤ (x3 + 2) ∧ (x3 + 2) < (X.1 : Int)) ∧ ((R32 (x3 + 3)) ∧ ((0 ≤ (x3 + 3) ∧ (x3 + 3) < (X.1 : Int)) ∧ Wp X 3 67 0 [vr 89, vi (X.2 (x3 + 1)), vi (X.2 (x3 + 2)), vi (X.2 (x3 + 3)), vu] [] h (fun v h' => Wp X 17 247 276 [vr 5, vr 6, vr 89, vi x3] (psh v [vi s0]) h' Q)))))))) : Wp X 17 247 257 [vr 5, vr 6, vr 89, vi x3] [vi s0] h Q := by
  refine wp_aload rfl rfl ?_
  refine wp_aload rfl rfl ?_
  refine wp_iload rfl rfl ?_
  refine wp_iconst rfl ?_
  refine wp_iadd rfl ?_
  have g1 := H.1
  replace H := H.2
  refine Wp.topI (y := (x3 + 1)) (w32_I g1) ?_
  have g2 := H.1
  replace H := H.2
  refine wp_script rfl g2 ?_
  refine wp_aload rfl rfl ?_
  refine wp_iload rfl rfl ?_
  refine wp_iconst rfl ?_
  refine wp_iadd rfl ?_
  have g3 := H.1
  replace H := H.2
  refine Wp.topI (y := (x3 + 2)) (w32_I g3) ?_
  have g4 := H.1
  replace H := H.2
  refine wp_script rfl g4 ?_
  refine wp_aload rfl rfl ?_
  refine wp_iload rfl rfl ?_
  refine wp_iconst rfl ?_
  refine wp_iadd rfl ?_
  have g5 := H.1
  replace H := H.2
  refine Wp.topI (y := (x3 + 3)) (w32_I g5) ?_
  have g6 := H.1
  replace H := H.2
  refine wp_script rfl g6 ?_
  exact wp_call (k := 67) (ρ2 := 3) (L2 := [vr 89, vi (X.2 (x3 + 1)), vi (X.2 (x3 + 2)), vi (X.2 (x3 + 3)), vu]) rfl rfl rfl (Nat.le_of_ble_eq_true rfl) (Nat.le_of_ble_eq_true rfl) (Nat.le_of_ble_eq_true rfl) (rcv_V rfl (congrArg Prod.fst (kf_89 X.1))) rfl H
theorem S247_276 {X : Nat × (Int → Int)} {h : HP} {Q : bQ} (x3 : Int) (s0 : Int) (s1 : Int) (H : ((s1 = s0 → ((R32 (x3 + 6)) ∧ Wp X 17 247 18 [vr 5, vr 6, vr 89, vi (x3 + 6)] [] h Q)) ∧ (s1 ≠ s0 → Q (some (vi 0)) h))) : Wp X 17 247 276 [vr 5, vr 6, vr 89, vi x3] [vi s0, vi s1] h Q := by
  refine wp_iceq (tn := 1217) rfl rfl (fun c1 => ?_) (fun c1 => ?_)
  · replace H := H.1 c1
    have g2 := H.1
    replace H := H.2
    refine wp_iincR (L2 := [vr 5, vr 6, vr 89, vi (x3 + 6)]) rfl rfl g2 rfl ?_
    refine wp_goto (tn := 18) rfl rfl ?_
    exact H
  · replace H := H.2 c1
    refine wp_iconst rfl ?_
    exact wp_zret rfl rfl (by decide) H
theorem S247_295 {X : Nat × (Int → Int)} {h : HP} {Q : bQ} (x3 : Int) (s0 : Int) (H : ((R32 (x3 + 1)) ∧ ((0 ≤ (x3 + 1) ∧ (x3 + 1) < (X.1 : Int)) ∧ ((R32 (x3 + 2)) ∧ ((0 ≤ (x3 + 2) ∧ (x3 + 2) < (X.1 : Int)) ∧ Wp X 1 69 0 [vr 89, vi (X.2 (x3 + 1)), vi (X.2 (x3 + 2)), vu] [] h (fun v h' => Wp X 17 247 309 [vr 5, vr 6, vr 89, vi x3] (psh v [vi s0]) h' Q)))))) : Wp X 17 247 295 [vr 5, vr 6, vr 89, vi x3] [vi s0] h Q := by
  refine wp_aload rfl rfl ?_
  refine wp_aload rfl rfl ?_
  refine wp_iload rfl rfl ?_
  refine wp_iconst rfl ?_
  refine wp_iadd rfl ?_
  have g1 := H.1
  replace H := H.2
  refine Wp.topI (y := (x3 + 1)) (w32_I g1) ?_
  have g2 := H.1
  replace H := H.2
  refine wp_script rfl g2 ?_
  refine wp_aload rfl rfl ?_
  refine wp_iload rfl rfl ?_
  refine wp_iconst rfl ?_
  refine wp_iadd rfl ?_
  have g3 := H.1
  replace H := H.2
  refine Wp.topI (y := (x3 + 2)) (w32_I g3) ?_
  have g4 := H.1
  replace H := H.2
  refine wp_script rfl g4 ?_
  exact wp_call (k := 69) (ρ2 := 1) (L2 := [vr 89, vi (X.2 (x3 + 1)), vi (X.2 (x3 + 2)), vu]) rfl rfl rfl (Nat.le_of_ble_eq_true rfl) (Nat.le_of_ble_eq_true rfl) (Nat.le_of_ble_eq_true rfl) (rcv_V rfl (congrArg Prod.fst (kf_89 X.1))) rfl H
theorem S247_309 {X : Nat × (Int → Int)} {h : HP} {Q : bQ} (x3 : Int) (s0 : Int) (s1 : Int) (H : ((s1 = s0 → ((R32 (x3 + 6)) ∧ Wp X 17 247 18 [vr 5, vr 6, vr 89, vi (x3 + 6)] [] h Q)) ∧ (s1 ≠ s0 → Q (some (vi 0)) h))) : Wp X 17 247 309 [vr 5, vr 6, vr 89, vi x3] [vi s0, vi s1] h Q := by
  refine wp_iceq (tn := 1217) rfl rfl (fun c1 => ?_) (fun c1 => ?_)
  · replace H := H.1 c1
    have g2 := H.1
    replace H := H.2
    refine wp_iincR (L2 := [vr 5, vr 6, vr 89, vi (x3 + 6)]) rfl rfl g2 rfl ?_
    refine wp_goto (tn := 18) rfl rfl ?_
    exact H
  · replace H := H.2 c1
    refine wp_iconst rfl ?_
    exact wp_zret rfl rfl (by decide) H
theorem S247_328 {X : Nat × (Int → Int)} {h : HP} {Q : bQ} (x3 : Int) (s0 : Int) (H : ((R32 (x3 + 1)) ∧ ((0 ≤ (x3 + 1) ∧ (x3 + 1) < (X.1 : Int)) ∧ ((R32 (x3 + 2)) ∧ ((0 ≤ (x3 + 2) ∧ (x3 + 2) < (X.1 : Int)) ∧ Wp X 2 71 0 [vr 89, vi (X.2 (x3 + 1)), vi (X.2 (x3 + 2))] [] h (fun v h' => Wp X 17 247 342 [vr 5, vr 6, vr 89, vi x3] (psh v [vi s0]) h' Q)))))) : Wp X 17 247 328 [vr 5, vr 6, vr 89, vi x3] [vi s0] h Q := by
  refine wp_aload rfl rfl ?_
  refine wp_aload rfl rfl ?_
  refine wp_iload rfl rfl ?_
  refine wp_iconst rfl ?_
  refine wp_iadd rfl ?_
  have g1 := H.1
  replace H := H.2
  refine Wp.topI (y := (x3 + 1)) (w32_I g1) ?_
  have g2 := H.1
  replace H := H.2
  refine wp_script rfl g2 ?_
  refine wp_aload rfl rfl ?_
  refine wp_iload rfl rfl ?_
  refine wp_iconst rfl ?_
  refine wp_iadd rfl ?_
  have g3 := H.1
  replace H := H.2
  refine Wp.topI (y := (x3 + 2)) (w32_I g3) ?_
  have g4 := H.1
  replace H := H.2
  refine wp_script rfl g4 ?_
  exact wp_call (k := 71) (ρ2 := 2) (L2 := [vr 89, vi (X.2 (x3 + 1)), vi (X.2 (x3 + 2))]) rfl rfl rfl (Nat.le_of_ble_eq_true rfl) (Nat.le_of_ble_eq_true rfl) (Nat.le_of_ble_eq_true rfl) (rcv_V rfl (congrArg Prod.fst (kf_89 X.1))) rfl H
theorem S247_342 {X : Nat × (Int → Int)} {h : HP} {Q : bQ} (x3 : Int) (s0 : Int) (s1 : Int) (H : ((s1 = s0 → ((R32 (x3 + 6)) ∧ Wp X 17 247 18 [vr 5, vr 6, vr 89, vi (x3 + 6)] [] h Q)) ∧ (s1 ≠ s0 → Q (some (vi 0)) h))) : Wp X 17 247 342 [vr 5, vr 6, vr 89, vi x3] [vi s0, vi s1] h Q := by
  refine wp_iceq (tn := 1217) rfl rfl (fun c1 => ?_) (fun c1 => ?_)
  · replace H := H.1 c1
    have g2 := H.1
    replace H := H.2
    refine wp_iincR (L2 := [vr 5, vr 6, vr 89, vi (x3 + 6)]) rfl rfl g2 rfl ?_
    refine wp_goto (tn := 18) rfl rfl ?_
    exact H
  · replace H := H.2 c1
    refine wp_iconst rfl ?_
    exact wp_zret rfl rfl (by decide) H
theorem S247_366 {X : Nat × (Int → Int)} {h : HP} {Q : bQ} (x3 : Int) (s0 : Int) (H : ((R32 (x3 + 1)) ∧ ((0 ≤ (x3 + 1) ∧ (x3 + 1) < (X.1 : Int)) ∧ ((R32 (x3 + 2)) ∧ ((0 ≤ (x3 + 2) ∧ (x3 + 2) < (X.1 : Int)) ∧ ((R32 (x3 + 3)) ∧ ((0 ≤ (x3 + 3) ∧ (x3 + 3) < (X.1 : Int)) ∧ Wp X 2 72 0 [vr 89, vi (X.2 (x3 + 1)), vi (X.2 (x3 + 2)), vi (X.2 (x3 + 3))] [] h (fun v h' => Wp X 17 247 385 [vr 5, vr 6, vr 89, vi x3] (psh v [vl s0]) h' Q)))))))) : Wp X 17 247 366 [vr 5, vr 6, vr 89, vi x3] [vl s0] h Q := by
  refine wp_aload rfl rfl ?_
  refine wp_aload rfl rfl ?_
  refine wp_iload rfl rfl ?_
  refine wp_iconst rfl ?_
  refine wp_iadd rfl ?_
  have g1 := H.1
  replace H := H.2
  refine Wp.topI (y := (x3 + 1)) (w32_I g1) ?_
  have g2 := H.1
  replace H := H.2
  refine wp_script rfl g2 ?_
  refine wp_aload rfl rfl ?_
  refine wp_iload rfl rfl ?_
  refine wp_iconst rfl ?_
  refine wp_iadd rfl ?_
  have g3 := H.1
  replace H := H.2
  refine Wp.topI (y := (x3 + 2)) (w32_I g3) ?_
  have g4 := H.1
  replace H := H.2
  refine wp_script rfl g4 ?_
  refine wp_aload rfl rfl ?_
  refine wp_iload rfl rfl ?_
  refine wp_iconst rfl ?_
  refine wp_iadd rfl ?_
  have g5 := H.1
  replace H := H.2
  refine Wp.topI (y := (x3 + 3)) (w32_I g5) ?_
  have g6 := H.1
  replace H := H.2
  refine wp_script rfl g6 ?_
  exact wp_call (k := 72) (ρ2 := 2) (L2 := [vr 89, vi (X.2 (x3 + 1)), vi (X.2 (x3 + 2)), vi (X.2 (x3 + 3))]) rfl rfl rfl (Nat.le_of_ble_eq_true rfl) (Nat.le_of_ble_eq_true rfl) (Nat.le_of_ble_eq_true rfl) (rcv_V rfl (congrArg Prod.fst (kf_89 X.1))) rfl H
theorem S247_385 {X : Nat × (Int → Int)} {h : HP} {Q : bQ} (x3 : Int) (s0 : Int) (s1 : Int) (H : (((lcp s1 s0) = 0 → ((R32 (x3 + 6)) ∧ Wp X 17 247 18 [vr 5, vr 6, vr 89, vi (x3 + 6)] [] h Q)) ∧ ((lcp s1 s0) ≠ 0 → Q (some (vi 0)) h))) : Wp X 17 247 385 [vr 5, vr 6, vr 89, vi x3] [vl s0, vl s1] h Q := by
  refine wp_lcmp rfl ?_
  refine wp_ifeq (tn := 1217) rfl rfl (fun c1 => ?_) (fun c1 => ?_)
  · replace H := H.1 c1
    have g2 := H.1
    replace H := H.2
    refine wp_iincR (L2 := [vr 5, vr 6, vr 89, vi (x3 + 6)]) rfl rfl g2 rfl ?_
    refine wp_goto (tn := 18) rfl rfl ?_
    exact H
  · replace H := H.2 c1
    refine wp_iconst rfl ?_
    exact wp_zret rfl rfl (by decide) H
theorem S247_405 {X : Nat × (Int → Int)} {h : HP} {Q : bQ} (x3 : Int) (s0 : Int) (H : ((R32 (x3 + 1)) ∧ ((0 ≤ (x3 + 1) ∧ (x3 + 1) < (X.1 : Int)) ∧ ((R32 (x3 + 2)) ∧ ((0 ≤ (x3 + 2) ∧ (x3 + 2) < (X.1 : Int)) ∧ Wp X 5 80 0 [vr 89, vi (X.2 (x3 + 1)), vi (X.2 (x3 + 2))] [] h (fun v h' => Wp X 17 247 419 [vr 5, vr 6, vr 89, vi x3] (psh v [vl s0]) h' Q)))))) : Wp X 17 247 405 [vr 5, vr 6, vr 89, vi x3] [vl s0] h Q := by
  refine wp_aload rfl rfl ?_
  refine wp_aload rfl rfl ?_
  refine wp_iload rfl rfl ?_
  refine wp_iconst rfl ?_
  refine wp_iadd rfl ?_
  have g1 := H.1
  replace H := H.2
  refine Wp.topI (y := (x3 + 1)) (w32_I g1) ?_
  have g2 := H.1
  replace H := H.2
  refine wp_script rfl g2 ?_
  refine wp_aload rfl rfl ?_
  refine wp_iload rfl rfl ?_
  refine wp_iconst rfl ?_
  refine wp_iadd rfl ?_
  have g3 := H.1
  replace H := H.2
  refine Wp.topI (y := (x3 + 2)) (w32_I g3) ?_
  have g4 := H.1
  replace H := H.2
  refine wp_script rfl g4 ?_
  exact wp_call (k := 80) (ρ2 := 5) (L2 := [vr 89, vi (X.2 (x3 + 1)), vi (X.2 (x3 + 2))]) rfl rfl rfl (Nat.le_of_ble_eq_true rfl) (Nat.le_of_ble_eq_true rfl) (Nat.le_of_ble_eq_true rfl) (rcv_V rfl (congrArg Prod.fst (kf_89 X.1))) rfl H
theorem S247_419 {X : Nat × (Int → Int)} {h : HP} {Q : bQ} (x3 : Int) (s0 : Int) (s1 : Int) (H : (((lcp s1 s0) = 0 → ((R32 (x3 + 6)) ∧ Wp X 17 247 18 [vr 5, vr 6, vr 89, vi (x3 + 6)] [] h Q)) ∧ ((lcp s1 s0) ≠ 0 → Q (some (vi 0)) h))) : Wp X 17 247 419 [vr 5, vr 6, vr 89, vi x3] [vl s0, vl s1] h Q := by
  refine wp_lcmp rfl ?_
  refine wp_ifeq (tn := 1217) rfl rfl (fun c1 => ?_) (fun c1 => ?_)
  · replace H := H.1 c1
    have g2 := H.1
    replace H := H.2
    refine wp_iincR (L2 := [vr 5, vr 6, vr 89, vi (x3 + 6)]) rfl rfl g2 rfl ?_
    refine wp_goto (tn := 18) rfl rfl ?_
    exact H
  · replace H := H.2 c1
    refine wp_iconst rfl ?_
    exact wp_zret rfl rfl (by decide) H
theorem S247_429 {X : Nat × (Int → Int)} {h : HP} {Q : bQ} (x3 : Int) (s0 : Int) (H : Wp X 5 82 0 [vr 89] [] h (fun v h' => Wp X 17 247 433 [vr 5, vr 6, vr 89, vi x3] (psh v [vi s0]) h' Q)) : Wp X 17 247 429 [vr 5, vr 6, vr 89, vi x3] [vi s0] h Q := by
  refine wp_aload rfl rfl ?_
  exact wp_call (k := 82) (ρ2 := 5) (L2 := [vr 89]) rfl rfl rfl (Nat.le_of_ble_eq_true rfl) (Nat.le_of_ble_eq_true rfl) (Nat.le_of_ble_eq_true rfl) (rcv_V rfl (congrArg Prod.fst (kf_89 X.1))) rfl H
theorem S247_433 {X : Nat × (Int → Int)} {h : HP} {Q : bQ} (x3 : Int) (s0 : Int) (s1 : Int) (H : ((s1 = s0 → ((R32 (x3 + 6)) ∧ Wp X 17 247 18 [vr 5, vr 6, vr 89, vi (x3 + 6)] [] h Q)) ∧ (s1 ≠ s0 → Q (some (vi 0)) h))) : Wp X 17 247 433 [vr 5, vr 6, vr 89, vi x3] [vi s0, vi s1] h Q := by
  refine wp_iceq (tn := 1217) rfl rfl (fun c1 => ?_) (fun c1 => ?_)
  · replace H := H.1 c1
    have g2 := H.1
    replace H := H.2
    refine wp_iincR (L2 := [vr 5, vr 6, vr 89, vi (x3 + 6)]) rfl rfl g2 rfl ?_
    refine wp_goto (tn := 18) rfl rfl ?_
    exact H
  · replace H := H.2 c1
    refine wp_iconst rfl ?_
    exact wp_zret rfl rfl (by decide) H
theorem S247_452 {X : Nat × (Int → Int)} {h : HP} {Q : bQ} (x3 : Int) (s0 : Int) (H : ((R32 (x3 + 1)) ∧ ((0 ≤ (x3 + 1) ∧ (x3 + 1) < (X.1 : Int)) ∧ ((R32 (x3 + 2)) ∧ ((0 ≤ (x3 + 2) ∧ (x3 + 2) < (X.1 : Int)) ∧ Wp X 5 85 0 [vr 89, vi (X.2 (x3 + 1)), vi (X.2 (x3 + 2))] [] h (fun v h' => Wp X 17 247 466 [vr 5, vr 6, vr 89, vi x3] (psh v [vi s0]) h' Q)))))) : Wp X 17 247 452 [vr 5, vr 6, vr 89, vi x3] [vi s0] h Q := by
  refine wp_aload rfl rfl ?_
  refine wp_aload rfl rfl ?_
  refine wp_iload rfl rfl ?_
  refine wp_iconst rfl ?_
  refine wp_iadd rfl ?_
  have g1 := H.1
  replace H := H.2
  refine Wp.topI (y := (x3 + 1)) (w32_I g1) ?_
  have g2 := H.1
  replace H := H.2
  refine wp_script rfl g2 ?_
  refine wp_aload rfl rfl ?_
  refine wp_iload rfl rfl ?_
  refine wp_iconst rfl ?_
  refine wp_iadd rfl ?_
  have g3 := H.1
  replace H := H.2
  refine Wp.topI (y := (x3 + 2)) (w32_I g3) ?_
  have g4 := H.1
  replace H := H.2
  refine wp_script rfl g4 ?_
  exact wp_call (k := 85) (ρ2 := 5) (L2 := [vr 89, vi (X.2 (x3 + 1)), vi (X.2 (x3 + 2))]) rfl rfl rfl (Nat.le_of_ble_eq_true rfl) (Nat.le_of_ble_eq_true rfl) (Nat.le_of_ble_eq_true rfl) (rcv_V rfl (congrArg Prod.fst (kf_89 X.1))) rfl H
theorem S247_466 {X : Nat × (Int → Int)} {h : HP} {Q : bQ} (x3 : Int) (s0 : Int) (s1 : Int) (H : ((s1 = s0 → ((R32 (x3 + 6)) ∧ Wp X 17 247 18 [vr 5, vr 6, vr 89, vi (x3 + 6)] [] h Q)) ∧ (s1 ≠ s0 → Q (some (vi 0)) h))) : Wp X 17 247 466 [vr 5, vr 6, vr 89, vi x3] [vi s0, vi s1] h Q := by
  refine wp_iceq (tn := 1217) rfl rfl (fun c1 => ?_) (fun c1 => ?_)
  · replace H := H.1 c1
    have g2 := H.1
    replace H := H.2
    refine wp_iincR (L2 := [vr 5, vr 6, vr 89, vi (x3 + 6)]) rfl rfl g2 rfl ?_
    refine wp_goto (tn := 18) rfl rfl ?_
    exact H
  · replace H := H.2 c1
    refine wp_iconst rfl ?_
    exact wp_zret rfl rfl (by decide) H
theorem S247_485 {X : Nat × (Int → Int)} {h : HP} {Q : bQ} (x3 : Int) (s0 : Int) (H : ((R32 (x3 + 1)) ∧ ((0 ≤ (x3 + 1) ∧ (x3 + 1) < (X.1 : Int)) ∧ ((R32 (x3 + 2)) ∧ ((0 ≤ (x3 + 2) ∧ (x3 + 2) < (X.1 : Int)) ∧ Wp X 2 86 0 [vr 89, vi (X.2 (x3 + 1)), vi (X.2 (x3 + 2))] [] h (fun v h' => Wp X 17 247 499 [vr 5, vr 6, vr 89, vi x3] (psh v [vi s0]) h' Q)))))) : Wp X 17 247 485 [vr 5, vr 6, vr 89, vi x3] [vi s0] h Q := by
  refine wp_aload rfl rfl ?_
  refine wp_aload rfl rfl ?_
  refine wp_iload rfl rfl ?_
  refine wp_iconst rfl ?_
  refine wp_iadd rfl ?_
  have g1 := H.1
  replace H := H.2
  refine Wp.topI (y := (x3 + 1)) (w32_I g1) ?_
  have g2 := H.1
  replace H := H.2
  refine wp_script rfl g2 ?_
  refine wp_aload rfl rfl ?_
  refine wp_iload rfl rfl ?_
  refine wp_iconst rfl ?_
  refine wp_iadd rfl ?_
  have g3 := H.1
  replace H := H.2
  refine Wp.topI (y := (x3 + 2)) (w32_I g3) ?_
  have g4 := H.1
  replace H := H.2
  refine wp_script rfl g4 ?_
  exact wp_call (k := 86) (ρ2 := 2) (L2 := [vr 89, vi (X.2 (x3 + 1)), vi (X.2 (x3 + 2))]) rfl rfl rfl (Nat.le_of_ble_eq_true rfl) (Nat.le_of_ble_eq_true rfl) (Nat.le_of_ble_eq_true rfl) (rcv_V rfl (congrArg Prod.fst (kf_89 X.1))) rfl H
theorem S247_499 {X : Nat × (Int → Int)} {h : HP} {Q : bQ} (x3 : Int) (s0 : Int) (s1 : Int) (H : ((s1 = s0 → ((R32 (x3 + 6)) ∧ Wp X 17 247 18 [vr 5, vr 6, vr 89, vi (x3 + 6)] [] h Q)) ∧ (s1 ≠ s0 → Q (some (vi 0)) h))) : Wp X 17 247 499 [vr 5, vr 6, vr 89, vi x3] [vi s0, vi s1] h Q := by
  refine wp_iceq (tn := 1217) rfl rfl (fun c1 => ?_) (fun c1 => ?_)
  · replace H := H.1 c1
    have g2 := H.1
    replace H := H.2
    refine wp_iincR (L2 := [vr 5, vr 6, vr 89, vi (x3 + 6)]) rfl rfl g2 rfl ?_
    refine wp_goto (tn := 18) rfl rfl ?_
    exact H
  · replace H := H.2 c1
    refine wp_iconst rfl ?_
    exact wp_zret rfl rfl (by decide) H
theorem S247_513 {X : Nat × (Int → Int)} {h : HP} {Q : bQ} (x3 : Int) (s0 : Int) (H : ((R32 (x3 + 1)) ∧ ((0 ≤ (x3 + 1) ∧ (x3 + 1) < (X.1 : Int)) ∧ Wp X 2 87 0 [vr 89, vi (X.2 (x3 + 1)), vu] [] h (fun v h' => Wp X 17 247 522 [vr 5, vr 6, vr 89, vi x3] (psh v [vi s0]) h' Q)))) : Wp X 17 247 513 [vr 5, vr 6, vr 89, vi x3] [vi s0] h Q := by
  refine wp_aload rfl rfl ?_
  refine wp_aload rfl rfl ?_
  refine wp_iload rfl rfl ?_
  refine wp_iconst rfl ?_
  refine wp_iadd rfl ?_
  have g1 := H.1
  replace H := H.2
  refine Wp.topI (y := (x3 + 1)) (w32_I g1) ?_
  have g2 := H.1
  replace H := H.2
  refine wp_script rfl g2 ?_
  exact wp_call (k := 87) (ρ2 := 2) (L2 := [vr 89, vi (X.2 (x3 + 1)), vu]) rfl rfl rfl (Nat.le_of_ble_eq_true rfl) (Nat.le_of_ble_eq_true rfl) (Nat.le_of_ble_eq_true rfl) (rcv_V rfl (congrArg Prod.fst (kf_89 X.1))) rfl H
theorem S247_522 {X : Nat × (Int → Int)} {h : HP} {Q : bQ} (x3 : Int) (s0 : Int) (s1 : Int) (H : ((s1 = s0 → ((R32 (x3 + 6)) ∧ Wp X 17 247 18 [vr 5, vr 6, vr 89, vi (x3 + 6)] [] h Q)) ∧ (s1 ≠ s0 → Q (some (vi 0)) h))) : Wp X 17 247 522 [vr 5, vr 6, vr 89, vi x3] [vi s0, vi s1] h Q := by
  refine wp_iceq (tn := 1217) rfl rfl (fun c1 => ?_) (fun c1 => ?_)
  · replace H := H.1 c1
    have g2 := H.1
    replace H := H.2
    refine wp_iincR (L2 := [vr 5, vr 6, vr 89, vi (x3 + 6)]) rfl rfl g2 rfl ?_
    refine wp_goto (tn := 18) rfl rfl ?_
    exact H
  · replace H := H.2 c1
    refine wp_iconst rfl ?_
    exact wp_zret rfl rfl (by decide) H
theorem S247_536 {X : Nat × (Int → Int)} {h : HP} {Q : bQ} (x3 : Int) (s0 : Int) (H : ((R32 (x3 + 1)) ∧ ((0 ≤ (x3 + 1) ∧ (x3 + 1) < (X.1 : Int)) ∧ Wp X 4 93 0 [vr 89, vi (X.2 (x3 + 1))] [] h (fun v h' => Wp X 17 247 545 [vr 5, vr 6, vr 89, vi x3] (psh v [vi s0]) h' Q)))) : Wp X 17 247 536 [vr 5, vr 6, vr 89, vi x3] [vi s0] h Q := by
  refine wp_aload rfl rfl ?_
  refine wp_aload rfl rfl ?_
  refine wp_iload rfl rfl ?_
  refine wp_iconst rfl ?_
  refine wp_iadd rfl ?_
  have g1 := H.1
  replace H := H.2
  refine Wp.topI (y := (x3 + 1)) (w32_I g1) ?_
  have g2 := H.1
  replace H := H.2
  refine wp_script rfl g2 ?_
  exact wp_call (k := 93) (ρ2 := 4) (L2 := [vr 89, vi (X.2 (x3 + 1))]) rfl rfl rfl (Nat.le_of_ble_eq_true rfl) (Nat.le_of_ble_eq_true rfl) (Nat.le_of_ble_eq_true rfl) (rcv_V rfl (congrArg Prod.fst (kf_89 X.1))) rfl H
theorem S247_545 {X : Nat × (Int → Int)} {h : HP} {Q : bQ} (x3 : Int) (s0 : Int) (s1 : Int) (H : ((s1 = s0 → ((R32 (x3 + 6)) ∧ Wp X 17 247 18 [vr 5, vr 6, vr 89, vi (x3 + 6)] [] h Q)) ∧ (s1 ≠ s0 → Q (some (vi 0)) h))) : Wp X 17 247 545 [vr 5, vr 6, vr 89, vi x3] [vi s0, vi s1] h Q := by
  refine wp_iceq (tn := 1217) rfl rfl (fun c1 => ?_) (fun c1 => ?_)
  · replace H := H.1 c1
    have g2 := H.1
    replace H := H.2
    refine wp_iincR (L2 := [vr 5, vr 6, vr 89, vi (x3 + 6)]) rfl rfl g2 rfl ?_
    refine wp_goto (tn := 18) rfl rfl ?_
    exact H
  · replace H := H.2 c1
    refine wp_iconst rfl ?_
    exact wp_zret rfl rfl (by decide) H
theorem S247_564 {X : Nat × (Int → Int)} {h : HP} {Q : bQ} (x3 : Int) (s0 : Int) (H : ((R32 (x3 + 1)) ∧ ((0 ≤ (x3 + 1) ∧ (x3 + 1) < (X.1 : Int)) ∧ ((R32 (x3 + 2)) ∧ ((0 ≤ (x3 + 2) ∧ (x3 + 2) < (X.1 : Int)) ∧ Wp X 5 101 0 [vr 89, vi (X.2 (x3 + 1)), vi (X.2 (x3 + 2))] [] h (fun v h' => Wp X 17 247 578 [vr 5, vr 6, vr 89, vi x3] (psh v [vi s0]) h' Q)))))) : Wp X 17 247 564 [vr 5, vr 6, vr 89, vi x3] [vi s0] h Q := by
  refine wp_aload rfl rfl ?_
  refine wp_aload rfl rfl ?_
  refine wp_iload rfl rfl ?_
  refine wp_iconst rfl ?_
  refine wp_iadd rfl ?_
  have g1 := H.1
  replace H := H.2
  refine Wp.topI (y := (x3 + 1)) (w32_I g1) ?_
  have g2 := H.1
  replace H := H.2
  refine wp_script rfl g2 ?_
  refine wp_aload rfl rfl ?_
  refine wp_iload rfl rfl ?_
  refine wp_iconst rfl ?_
  refine wp_iadd rfl ?_
  have g3 := H.1
  replace H := H.2
  refine Wp.topI (y := (x3 + 2)) (w32_I g3) ?_
  have g4 := H.1
  replace H := H.2
  refine wp_script rfl g4 ?_
  exact wp_call (k := 101) (ρ2 := 5) (L2 := [vr 89, vi (X.2 (x3 + 1)), vi (X.2 (x3 + 2))]) rfl rfl rfl (Nat.le_of_ble_eq_true rfl) (Nat.le_of_ble_eq_true rfl) (Nat.le_of_ble_eq_true rfl) (rcv_V rfl (congrArg Prod.fst (kf_89 X.1))) rfl H
theorem S247_578 {X : Nat × (Int → Int)} {h : HP} {Q : bQ} (x3 : Int) (s0 : Int) (s1 : Int) (H : ((s1 = s0 → ((R32 (x3 + 6)) ∧ Wp X 17 247 18 [vr 5, vr 6, vr 89, vi (x3 + 6)] [] h Q)) ∧ (s1 ≠ s0 → Q (some (vi 0)) h))) : Wp X 17 247 578 [vr 5, vr 6, vr 89, vi x3] [vi s0, vi s1] h Q := by
  refine wp_iceq (tn := 1217) rfl rfl (fun c1 => ?_) (fun c1 => ?_)
  · replace H := H.1 c1
    have g2 := H.1
    replace H := H.2
    refine wp_iincR (L2 := [vr 5, vr 6, vr 89, vi (x3 + 6)]) rfl rfl g2 rfl ?_
    refine wp_goto (tn := 18) rfl rfl ?_
    exact H
  · replace H := H.2 c1
    refine wp_iconst rfl ?_
    exact wp_zret rfl rfl (by decide) H
theorem S247_597 {X : Nat × (Int → Int)} {h : HP} {Q : bQ} (x3 : Int) (s0 : Int) (H : ((R32 (x3 + 1)) ∧ ((0 ≤ (x3 + 1) ∧ (x3 + 1) < (X.1 : Int)) ∧ ((R32 (x3 + 2)) ∧ ((0 ≤ (x3 + 2) ∧ (x3 + 2) < (X.1 : Int)) ∧ Wp X 7 107 0 [vr 89, vi (X.2 (x3 + 1)), vi (X.2 (x3 + 2))] [] h (fun v h' => Wp X 17 247 611 [vr 5, vr 6, vr 89, vi x3] (psh v [vi s0]) h' Q)))))) : Wp X 17 247 597 [vr 5, vr 6, vr 89, vi x3] [vi s0] h Q := by
  refine wp_aload rfl rfl ?_
  refine wp_aload rfl rfl ?_
  refine wp_iload rfl rfl ?_
  refine wp_iconst rfl ?_
  refine wp_iadd rfl ?_
  have g1 := H.1
  replace H := H.2
  refine Wp.topI (y := (x3 + 1)) (w32_I g1) ?_
  have g2 := H.1
  replace H := H.2
  refine wp_script rfl g2 ?_
  refine wp_aload rfl rfl ?_
  refine wp_iload rfl rfl ?_
  refine wp_iconst rfl ?_
  refine wp_iadd rfl ?_
  have g3 := H.1
  replace H := H.2
  refine Wp.topI (y := (x3 + 2)) (w32_I g3) ?_
  have g4 := H.1
  replace H := H.2
  refine wp_script rfl g4 ?_
  exact wp_call (k := 107) (ρ2 := 7) (L2 := [vr 89, vi (X.2 (x3 + 1)), vi (X.2 (x3 + 2))]) rfl rfl rfl (Nat.le_of_ble_eq_true rfl) (Nat.le_of_ble_eq_true rfl) (Nat.le_of_ble_eq_true rfl) (rcv_V rfl (congrArg Prod.fst (kf_89 X.1))) rfl H
theorem S247_611 {X : Nat × (Int → Int)} {h : HP} {Q : bQ} (x3 : Int) (s0 : Int) (s1 : Int) (H : ((s1 = s0 → ((R32 (x3 + 6)) ∧ Wp X 17 247 18 [vr 5, vr 6, vr 89, vi (x3 + 6)] [] h Q)) ∧ (s1 ≠ s0 → Q (some (vi 0)) h))) : Wp X 17 247 611 [vr 5, vr 6, vr 89, vi x3] [vi s0, vi s1] h Q := by
  refine wp_iceq (tn := 1217) rfl rfl (fun c1 => ?_) (fun c1 => ?_)
  · replace H := H.1 c1
    have g2 := H.1
    replace H := H.2
    refine wp_iincR (L2 := [vr 5, vr 6, vr 89, vi (x3 + 6)]) rfl rfl g2 rfl ?_
    refine wp_goto (tn := 18) rfl rfl ?_
    exact H
  · replace H := H.2 c1
    refine wp_iconst rfl ?_
    exact wp_zret rfl rfl (by decide) H
theorem S247_625 {X : Nat × (Int → Int)} {h : HP} {Q : bQ} (x3 : Int) (s0 : Int) (H : ((R32 (x3 + 1)) ∧ ((0 ≤ (x3 + 1) ∧ (x3 + 1) < (X.1 : Int)) ∧ Wp X 2 108 0 [vr 89, vi (X.2 (x3 + 1)), vu, vu, vu, vu] [] h (fun v h' => Wp X 17 247 634 [vr 5, vr 6, vr 89, vi x3] (psh v [vi s0]) h' Q)))) : Wp X 17 247 625 [vr 5, vr 6, vr 89, vi x3] [vi s0] h Q := by
  refine wp_aload rfl rfl ?_
  refine wp_aload rfl rfl ?_
  refine wp_iload rfl rfl ?_
  refine wp_iconst rfl ?_
  refine wp_iadd rfl ?_
  have g1 := H.1
  replace H := H.2
  refine Wp.topI (y := (x3 + 1)) (w32_I g1) ?_
  have g2 := H.1
  replace H := H.2
  refine wp_script rfl g2 ?_
  exact wp_call (k := 108) (ρ2 := 2) (L2 := [vr 89, vi (X.2 (x3 + 1)), vu, vu, vu, vu]) rfl rfl rfl (Nat.le_of_ble_eq_true rfl) (Nat.le_of_ble_eq_true rfl) (Nat.le_of_ble_eq_true rfl) (rcv_V rfl (congrArg Prod.fst (kf_89 X.1))) rfl H
theorem S247_634 {X : Nat × (Int → Int)} {h : HP} {Q : bQ} (x3 : Int) (s0 : Int) (s1 : Int) (H : ((s1 = s0 → ((R32 (x3 + 6)) ∧ Wp X 17 247 18 [vr 5, vr 6, vr 89, vi (x3 + 6)] [] h Q)) ∧ (s1 ≠ s0 → Q (some (vi 0)) h))) : Wp X 17 247 634 [vr 5, vr 6, vr 89, vi x3] [vi s0, vi s1] h Q := by
  refine wp_iceq (tn := 1217) rfl rfl (fun c1 => ?_) (fun c1 => ?_)
  · replace H := H.1 c1
    have g2 := H.1
    replace H := H.2
    refine wp_iincR (L2 := [vr 5, vr 6, vr 89, vi (x3 + 6)]) rfl rfl g2 rfl ?_
    refine wp_goto (tn := 18) rfl rfl ?_
    exact H
  · replace H := H.2 c1
    refine wp_iconst rfl ?_
    exact wp_zret rfl rfl (by decide) H
theorem S247_648 {X : Nat × (Int → Int)} {h : HP} {Q : bQ} (x3 : Int) (s0 : Int) (H : ((R32 (x3 + 1)) ∧ ((0 ≤ (x3 + 1) ∧ (x3 + 1) < (X.1 : Int)) ∧ Wp X 1 109 0 [vr 89, vi (X.2 (x3 + 1))] [] h (fun v h' => Wp X 17 247 657 [vr 5, vr 6, vr 89, vi x3] (psh v [vi s0]) h' Q)))) : Wp X 17 247 648 [vr 5, vr 6, vr 89, vi x3] [vi s0] h Q := by
  refine wp_aload rfl rfl ?_
  refine wp_aload rfl rfl ?_
  refine wp_iload rfl rfl ?_
  refine wp_iconst rfl ?_
  refine wp_iadd rfl ?_
  have g1 := H.1
  replace H := H.2
  refine Wp.topI (y := (x3 + 1)) (w32_I g1) ?_
  have g2 := H.1
  replace H := H.2
  refine wp_script rfl g2 ?_
  exact wp_call (k := 109) (ρ2 := 1) (L2 := [vr 89, vi (X.2 (x3 + 1))]) rfl rfl rfl (Nat.le_of_ble_eq_true rfl) (Nat.le_of_ble_eq_true rfl) (Nat.le_of_ble_eq_true rfl) (rcv_V rfl (congrArg Prod.fst (kf_89 X.1))) rfl H
theorem S247_657 {X : Nat × (Int → Int)} {h : HP} {Q : bQ} (x3 : Int) (s0 : Int) (s1 : Int) (H : ((s1 = s0 → ((R32 (x3 + 6)) ∧ Wp X 17 247 18 [vr 5, vr 6, vr 89, vi (x3 + 6)] [] h Q)) ∧ (s1 ≠ s0 → Q (some (vi 0)) h))) : Wp X 17 247 657 [vr 5, vr 6, vr 89, vi x3] [vi s0, vi s1] h Q := by
  refine wp_iceq (tn := 1217) rfl rfl (fun c1 => ?_) (fun c1 => ?_)
  · replace H := H.1 c1
    have g2 := H.1
    replace H := H.2
    refine wp_iincR (L2 := [vr 5, vr 6, vr 89, vi (x3 + 6)]) rfl rfl g2 rfl ?_
    refine wp_goto (tn := 18) rfl rfl ?_
    exact H
  · replace H := H.2 c1
    refine wp_iconst rfl ?_
    exact wp_zret rfl rfl (by decide) H
theorem S247_699 {X : Nat × (Int → Int)} {h : HP} {Q : bQ} (x3 : Int) (s0 : Int) (H : ((R32 (x3 + 1)) ∧ ((0 ≤ (x3 + 1) ∧ (x3 + 1) < (X.1 : Int)) ∧ ((R32 (x3 + 2)) ∧ ((0 ≤ (x3 + 2) ∧ (x3 + 2) < (X.1 : Int)) ∧ ((R32 (x3 + 3)) ∧ ((0 ≤ (x3 + 3) ∧ (x3 + 3) < (X.1 : Int)) ∧ ((R32 (x3 + 4)) ∧ ((0 ≤ (x3 + 4) ∧ (x3 + 4) < (X.1 : Int)) ∧ (((X.2 (x3 + 4)) = 0 → ((R32 (x3 + 5)) ∧ ((0 ≤ (x3 + 5) ∧ (x3 + 5) < (X.1 : Int)) ∧ Wp X 6 119 0 [vr 89, vi (X.2 (x3 + 1)), vi (X.2 (x3 + 2)), vi (X.2 (x3 + 3)), vi 0, vi (X.2 (x3 + 5))] [] h (fun v h' => Wp X 17 247 736 [vr 5, vr 6, vr 89, vi x3] (psh v [vl s0]) h' Q)))) ∧ ((X.2 (x3 + 4)) ≠ 0 → ((R32 (x3 + 5)) ∧ ((0 ≤ (x3 + 5) ∧ (x3 + 5) < (X.1 : Int)) ∧ Wp X 6 119 0 [vr 89, vi (X.2 (x3 + 1)), vi (X.2 (x3 + 2)), vi (X.2 (x3 + 3)), vi 1, vi (X.2 (x3 + 5))] [] h (fun v h' => Wp X 17 247 736 [vr 5, vr 6, vr 89, vi x3] (psh v [vl s0]) h' Q)))))))))))))) : Wp X 17 247 699 [vr 5, vr 6, vr 89, vi x3] [vl s0] h Q := by
  refine wp_aload rfl rfl ?_
  refine wp_aload rfl rfl ?_
  refine wp_iload rfl rfl ?_
  refine wp_iconst rfl ?_
  refine wp_iadd rfl ?_
  have g1 := H.1
  replace H := H.2
  refine Wp.topI (y := (x3 + 1)) (w32_I g1) ?_
  have g2 := H.1
  replace H := H.2
  refine wp_script rfl g2 ?_
  refine wp_aload rfl rfl ?_
  refine wp_iload rfl rfl ?_
  refine wp_iconst rfl ?_
  refine wp_iadd rfl ?_
  have g3 := H.1
  replace H := H.2
  refine Wp.topI (y := (x3 + 2)) (w32_I g3) ?_
  have g4 := H.1
  replace H := H.2
  refine wp_script rfl g4 ?_
  refine wp_aload rfl rfl ?_
  refine wp_iload rfl rfl ?_
  refine wp_iconst rfl ?_
  refine wp_iadd rfl ?_
  have g5 := H.1
  replace H := H.2
  refine Wp.topI (y := (x3 + 3)) (w32_I g5) ?_
  have g6 := H.1
  replace H := H.2
  refine wp_script rfl g6 ?_
  refine wp_aload rfl rfl ?_
  refine wp_iload rfl rfl ?_
  refine wp_iconst rfl ?_
  refine wp_iadd rfl ?_
  have g7 := H.1
  replace H := H.2
  refine Wp.topI (y := (x3 + 4)) (w32_I g7) ?_
  have g8 := H.1
  replace H := H.2
  refine wp_script rfl g8 ?_
  refine wp_ifeq (tn := 727) rfl rfl (fun c9 => ?_) (fun c9 => ?_)
  · replace H := H.1 c9
    refine wp_iconst rfl ?_
    refine wp_aload rfl rfl ?_
    refine wp_iload rfl rfl ?_
    refine wp_iconst rfl ?_
    refine wp_iadd rfl ?_
    have g10 := H.1
    replace H := H.2
    refine Wp.topI (y := (x3 + 5)) (w32_I g10) ?_
    have g11 := H.1
    replace H := H.2
    refine wp_script rfl g11 ?_
    exact wp_call (k := 119) (ρ2 := 6) (L2 := [vr 89, vi (X.2 (x3 + 1)), vi (X.2 (x3 + 2)), vi (X.2 (x3 + 3)), vi 0, vi (X.2 (x3 + 5))]) rfl rfl rfl (Nat.le_of_ble_eq_true rfl) (Nat.le_of_ble_eq_true rfl) (Nat.le_of_ble_eq_true rfl) (rcv_V rfl (congrArg Prod.fst (kf_89 X.1))) rfl H
  · replace H := H.2 c9
    refine wp_iconst rfl ?_
    refine wp_goto (tn := 728) rfl rfl ?_
    refine wp_aload rfl rfl ?_
    refine wp_iload rfl rfl ?_
    refine wp_iconst rfl ?_
    refine wp_iadd rfl ?_
    have g12 := H.1
    replace H := H.2
    refine Wp.topI (y := (x3 + 5)) (w32_I g12) ?_
    have g13 := H.1
    replace H := H.2
    refine wp_script rfl g13 ?_
    exact wp_call (k := 119) (ρ2 := 6) (L2 := [vr 89, vi (X.2 (x3 + 1)), vi (X.2 (x3 + 2)), vi (X.2 (x3 + 3)), vi 1, vi (X.2 (x3 + 5))]) rfl rfl rfl (Nat.le_of_ble_eq_true rfl) (Nat.le_of_ble_eq_true rfl) (Nat.le_of_ble_eq_true rfl) (rcv_V rfl (congrArg Prod.fst (kf_89 X.1))) rfl H
theorem S247_736 {X : Nat × (Int → Int)} {h : HP} {Q : bQ} (x3 : Int) (s0 : Int) (s1 : Int) (H : (((lcp s1 s0) = 0 → ((R32 (x3 + 6)) ∧ Wp X 17 247 18 [vr 5, vr 6, vr 89, vi (x3 + 6)] [] h Q)) ∧ ((lcp s1 s0) ≠ 0 → Q (some (vi 0)) h))) : Wp X 17 247 736 [vr 5, vr 6, vr 89, vi x3] [vl s0, vl s1] h Q := by
  refine wp_lcmp rfl ?_
  refine wp_ifeq (tn := 1217) rfl rfl (fun c1 => ?_) (fun c1 => ?_)
  · replace H := H.1 c1
    have g2 := H.1
    replace H := H.2
    refine wp_iincR (L2 := [vr 5, vr 6, vr 89, vi (x3 + 6)]) rfl rfl g2 rfl ?_
    refine wp_goto (tn := 18) rfl rfl ?_
    exact H
  · replace H := H.2 c1
    refine wp_iconst rfl ?_
    exact wp_zret rfl rfl (by decide) H
theorem S247_761 {X : Nat × (Int → Int)} {h : HP} {Q : bQ} (x3 : Int) (s0 : Int) (H : ((R32 (x3 + 1)) ∧ ((0 ≤ (x3 + 1) ∧ (x3 + 1) < (X.1 : Int)) ∧ ((R32 (x3 + 2)) ∧ ((0 ≤ (x3 + 2) ∧ (x3 + 2) < (X.1 : Int)) ∧ ((R32 (x3 + 3)) ∧ ((0 ≤ (x3 + 3) ∧ (x3 + 3) < (X.1 : Int)) ∧ Wp X 6 121 0 [vr 89, vi (X.2 (x3 + 1)), vi (X.2 (x3 + 2)), vi (X.2 (x3 + 3)), vu, vu, vu, vu, vu] [] h (fun v h' => Wp X 17 247 780 [vr 5, vr 6, vr 89, vi x3] (psh v [vl s0]) h' Q)))))))) : Wp X 17 247 761 [vr 5, vr 6, vr 89, vi x3] [vl s0] h Q := by
  refine wp_aload rfl rfl ?_
  refine wp_aload rfl rfl ?_
  refine wp_iload rfl rfl ?_
  refine wp_iconst rfl ?_
  refine wp_iadd rfl ?_
  have g1 := H.1
  replace H := H.2
  refine Wp.topI (y := (x3 + 1)) (w32_I g1) ?_
  have g2 := H.1
  replace H := H.2
  refine wp_script rfl g2 ?_
  refine wp_aload rfl rfl ?_
  refine wp_iload rfl rfl ?_
  refine wp_iconst rfl ?_
  refine wp_iadd rfl ?_
  have g3 := H.1
  replace H := H.2
  refine Wp.topI (y := (x3 + 2)) (w32_I g3) ?_
  have g4 := H.1
  replace H := H.2
  refine wp_script rfl g4 ?_
  refine wp_aload rfl rfl ?_
  refine wp_iload rfl rfl ?_
  refine wp_iconst rfl ?_
  refine wp_iadd rfl ?_
  have g5 := H.1
  replace H := H.2
  refine Wp.topI (y := (x3 + 3)) (w32_I g5) ?_
  have g6 := H.1
  replace H := H.2
  refine wp_script rfl g6 ?_
  exact wp_call (k := 121) (ρ2 := 6) (L2 := [vr 89, vi (X.2 (x3 + 1)), vi (X.2 (x3 + 2)), vi (X.2 (x3 + 3)), vu, vu, vu, vu, vu]) rfl rfl rfl (Nat.le_of_ble_eq_true rfl) (Nat.le_of_ble_eq_true rfl) (Nat.le_of_ble_eq_true rfl) (rcv_V rfl (congrArg Prod.fst (kf_89 X.1))) rfl H
theorem S247_780 {X : Nat × (Int → Int)} {h : HP} {Q : bQ} (x3 : Int) (s0 : Int) (s1 : Int) (H : (((lcp s1 s0) = 0 → ((R32 (x3 + 6)) ∧ Wp X 17 247 18 [vr 5, vr 6, vr 89, vi (x3 + 6)] [] h Q)) ∧ ((lcp s1 s0) ≠ 0 → Q (some (vi 0)) h))) : Wp X 17 247 780 [vr 5, vr 6, vr 89, vi x3] [vl s0, vl s1] h Q := by
  refine wp_lcmp rfl ?_
  refine wp_ifeq (tn := 1217) rfl rfl (fun c1 => ?_) (fun c1 => ?_)
  · replace H := H.1 c1
    have g2 := H.1
    replace H := H.2
    refine wp_iincR (L2 := [vr 5, vr 6, vr 89, vi (x3 + 6)]) rfl rfl g2 rfl ?_
    refine wp_goto (tn := 18) rfl rfl ?_
    exact H
  · replace H := H.2 c1
    refine wp_iconst rfl ?_
    exact wp_zret rfl rfl (by decide) H
theorem S247_805 {X : Nat × (Int → Int)} {h : HP} {Q : bQ} (x3 : Int) (s0 : Int) (H : ((R32 (x3 + 1)) ∧ ((0 ≤ (x3 + 1) ∧ (x3 + 1) < (X.1 : Int)) ∧ ((R32 (x3 + 2)) ∧ ((0 ≤ (x3 + 2) ∧ (x3 + 2) < (X.1 : Int)) ∧ ((R32 (x3 + 3)) ∧ ((0 ≤ (x3 + 3) ∧ (x3 + 3) < (X.1 : Int)) ∧ Wp X 4 123 0 [vr 89, vi (X.2 (x3 + 1)), vi (X.2 (x3 + 2)), vi (X.2 (x3 + 3)), vu] [] h (fun v h' => Wp X 17 247 824 [vr 5, vr 6, vr 89, vi x3] (psh v [vl s0]) h' Q)))))))) : Wp X 17 247 805 [vr 5, vr 6, vr 89, vi x3] [vl s0] h Q := by
  refine wp_aload rfl rfl ?_
  refine wp_aload rfl rfl ?_
  refine wp_iload rfl rfl ?_
  refine wp_iconst rfl ?_
  refine wp_iadd rfl ?_
  have g1 := H.1
  replace H := H.2
  refine Wp.topI (y := (x3 + 1)) (w32_I g1) ?_
  have g2 := H.1
  replace H := H.2
  refine wp_script rfl g2 ?_
  refine wp_aload rfl rfl ?_
  refine wp_iload rfl rfl ?_
  refine wp_iconst rfl ?_
  refine wp_iadd rfl ?_
  have g3 := H.1
  replace H := H.2
  refine Wp.topI (y := (x3 + 2)) (w32_I g3) ?_
  have g4 := H.1
  replace H := H.2
  refine wp_script rfl g4 ?_
  refine wp_aload rfl rfl ?_
  refine wp_iload rfl rfl ?_
  refine wp_iconst rfl ?_
  refine wp_iadd rfl ?_
  have g5 := H.1
  replace H := H.2
  refine Wp.topI (y := (x3 + 3)) (w32_I g5) ?_
  have g6 := H.1
  replace H := H.2
  refine wp_script rfl g6 ?_
  exact wp_call (k := 123) (ρ2 := 4) (L2 := [vr 89, vi (X.2 (x3 + 1)), vi (X.2 (x3 + 2)), vi (X.2 (x3 + 3)), vu]) rfl rfl rfl (Nat.le_of_ble_eq_true rfl) (Nat.le_of_ble_eq_true rfl) (Nat.le_of_ble_eq_true rfl) (rcv_V rfl (congrArg Prod.fst (kf_89 X.1))) rfl H
theorem S247_824 {X : Nat × (Int → Int)} {h : HP} {Q : bQ} (x3 : Int) (s0 : Int) (s1 : Int) (H : (((lcp s1 s0) = 0 → ((R32 (x3 + 6)) ∧ Wp X 17 247 18 [vr 5, vr 6, vr 89, vi (x3 + 6)] [] h Q)) ∧ ((lcp s1 s0) ≠ 0 → Q (some (vi 0)) h))) : Wp X 17 247 824 [vr 5, vr 6, vr 89, vi x3] [vl s0, vl s1] h Q := by
  refine wp_lcmp rfl ?_
  refine wp_ifeq (tn := 1217) rfl rfl (fun c1 => ?_) (fun c1 => ?_)
  · replace H := H.1 c1
    have g2 := H.1
    replace H := H.2
    refine wp_iincR (L2 := [vr 5, vr 6, vr 89, vi (x3 + 6)]) rfl rfl g2 rfl ?_
    refine wp_goto (tn := 18) rfl rfl ?_
    exact H
  · replace H := H.2 c1
    refine wp_iconst rfl ?_
    exact wp_zret rfl rfl (by decide) H
theorem S247_839 {X : Nat × (Int → Int)} {h : HP} {Q : bQ} (x3 : Int) (s0 : Int) (H : ((R32 (x3 + 1)) ∧ ((0 ≤ (x3 + 1) ∧ (x3 + 1) < (X.1 : Int)) ∧ Wp X 5 126 0 [vr 89, vi (X.2 (x3 + 1))] [] h (fun v h' => Wp X 17 247 848 [vr 5, vr 6, vr 89, vi x3] (psh v [vi s0]) h' Q)))) : Wp X 17 247 839 [vr 5, vr 6, vr 89, vi x3] [vi s0] h Q := by
  refine wp_aload rfl rfl ?_
  refine wp_aload rfl rfl ?_
  refine wp_iload rfl rfl ?_
  refine wp_iconst rfl ?_
  refine wp_iadd rfl ?_
  have g1 := H.1
  replace H := H.2
  refine Wp.topI (y := (x3 + 1)) (w32_I g1) ?_
  have g2 := H.1
  replace H := H.2
  refine wp_script rfl g2 ?_
  exact wp_call (k := 126) (ρ2 := 5) (L2 := [vr 89, vi (X.2 (x3 + 1))]) rfl rfl rfl (Nat.le_of_ble_eq_true rfl) (Nat.le_of_ble_eq_true rfl) (Nat.le_of_ble_eq_true rfl) (rcv_V rfl (congrArg Prod.fst (kf_89 X.1))) rfl H
theorem S247_848 {X : Nat × (Int → Int)} {h : HP} {Q : bQ} (x3 : Int) (s0 : Int) (s1 : Int) (H : ((s1 = s0 → ((R32 (x3 + 6)) ∧ Wp X 17 247 18 [vr 5, vr 6, vr 89, vi (x3 + 6)] [] h Q)) ∧ (s1 ≠ s0 → Q (some (vi 0)) h))) : Wp X 17 247 848 [vr 5, vr 6, vr 89, vi x3] [vi s0, vi s1] h Q := by
  refine wp_iceq (tn := 1217) rfl rfl (fun c1 => ?_) (fun c1 => ?_)
  · replace H := H.1 c1
    have g2 := H.1
    replace H := H.2
    refine wp_iincR (L2 := [vr 5, vr 6, vr 89, vi (x3 + 6)]) rfl rfl g2 rfl ?_
    refine wp_goto (tn := 18) rfl rfl ?_
    exact H
  · replace H := H.2 c1
    refine wp_iconst rfl ?_
    exact wp_zret rfl rfl (by decide) H
theorem S247_867 {X : Nat × (Int → Int)} {h : HP} {Q : bQ} (x3 : Int) (s0 : Int) (H : ((R32 (x3 + 1)) ∧ ((0 ≤ (x3 + 1) ∧ (x3 + 1) < (X.1 : Int)) ∧ ((R32 (x3 + 2)) ∧ ((0 ≤ (x3 + 2) ∧ (x3 + 2) < (X.1 : Int)) ∧ Wp X 1 124 0 [vr 89, vi (X.2 (x3 + 1)), vi (X.2 (x3 + 2))] [] h (fun v h' => Wp X 17 247 881 [vr 5, vr 6, vr 89, vi x3] (psh v [vi s0]) h' Q)))))) : Wp X 17 247 867 [vr 5, vr 6, vr 89, vi x3] [vi s0] h Q := by
  refine wp_aload rfl rfl ?_
  refine wp_aload rfl rfl ?_
  refine wp_iload rfl rfl ?_
  refine wp_iconst rfl ?_
  refine wp_iadd rfl ?_
  have g1 := H.1
  replace H := H.2
  refine Wp.topI (y := (x3 + 1)) (w32_I g1) ?_
  have g2 := H.1
  replace H := H.2
  refine wp_script rfl g2 ?_
  refine wp_aload rfl rfl ?_
  refine wp_iload rfl rfl ?_
  refine wp_iconst rfl ?_
  refine wp_iadd rfl ?_
  have g3 := H.1
  replace H := H.2
  refine Wp.topI (y := (x3 + 2)) (w32_I g3) ?_
  have g4 := H.1
  replace H := H.2
  refine wp_script rfl g4 ?_
  exact wp_call (k := 124) (ρ2 := 1) (L2 := [vr 89, vi (X.2 (x3 + 1)), vi (X.2 (x3 + 2))]) rfl rfl rfl (Nat.le_of_ble_eq_true rfl) (Nat.le_of_ble_eq_true rfl) (Nat.le_of_ble_eq_true rfl) (rcv_V rfl (congrArg Prod.fst (kf_89 X.1))) rfl H
theorem S247_881 {X : Nat × (Int → Int)} {h : HP} {Q : bQ} (x3 : Int) (s0 : Int) (s1 : Int) (H : ((s1 = s0 → ((R32 (x3 + 6)) ∧ Wp X 17 247 18 [vr 5, vr 6, vr 89, vi (x3 + 6)] [] h Q)) ∧ (s1 ≠ s0 → Q (some (vi 0)) h))) : Wp X 17 247 881 [vr 5, vr 6, vr 89, vi x3] [vi s0, vi s1] h Q := by
  refine wp_iceq (tn := 1217) rfl rfl (fun c1 => ?_) (fun c1 => ?_)
  · replace H := H.1 c1
    have g2 := H.1
    replace H := H.2
    refine wp_iincR (L2 := [vr 5, vr 6, vr 89, vi (x3 + 6)]) rfl rfl g2 rfl ?_
    refine wp_goto (tn := 18) rfl rfl ?_
    exact H
  · replace H := H.2 c1
    refine wp_iconst rfl ?_
    exact wp_zret rfl rfl (by decide) H
theorem S247_895 {X : Nat × (Int → Int)} {h : HP} {Q : bQ} (x3 : Int) (s0 : Int) (H : ((R32 (x3 + 1)) ∧ ((0 ≤ (x3 + 1) ∧ (x3 + 1) < (X.1 : Int)) ∧ Wp X 5 128 0 [vr 89, vi (X.2 (x3 + 1))] [] h (fun v h' => Wp X 17 247 904 [vr 5, vr 6, vr 89, vi x3] (psh v [vi s0]) h' Q)))) : Wp X 17 247 895 [vr 5, vr 6, vr 89, vi x3] [vi s0] h Q := by
  refine wp_aload rfl rfl ?_
  refine wp_aload rfl rfl ?_
  refine wp_iload rfl rfl ?_
  refine wp_iconst rfl ?_
  refine wp_iadd rfl ?_
  have g1 := H.1
  replace H := H.2
  refine Wp.topI (y := (x3 + 1)) (w32_I g1) ?_
  have g2 := H.1
  replace H := H.2
  refine wp_script rfl g2 ?_
  exact wp_call (k := 128) (ρ2 := 5) (L2 := [vr 89, vi (X.2 (x3 + 1))]) rfl rfl rfl (Nat.le_of_ble_eq_true rfl) (Nat.le_of_ble_eq_true rfl) (Nat.le_of_ble_eq_true rfl) (rcv_V rfl (congrArg Prod.fst (kf_89 X.1))) rfl H
theorem S247_904 {X : Nat × (Int → Int)} {h : HP} {Q : bQ} (x3 : Int) (s0 : Int) (s1 : Int) (H : ((s1 = s0 → ((R32 (x3 + 6)) ∧ Wp X 17 247 18 [vr 5, vr 6, vr 89, vi (x3 + 6)] [] h Q)) ∧ (s1 ≠ s0 → Q (some (vi 0)) h))) : Wp X 17 247 904 [vr 5, vr 6, vr 89, vi x3] [vi s0, vi s1] h Q := by
  refine wp_iceq (tn := 1217) rfl rfl (fun c1 => ?_) (fun c1 => ?_)
  · replace H := H.1 c1
    have g2 := H.1
    replace H := H.2
    refine wp_iincR (L2 := [vr 5, vr 6, vr 89, vi (x3 + 6)]) rfl rfl g2 rfl ?_
    refine wp_goto (tn := 18) rfl rfl ?_
    exact H
  · replace H := H.2 c1
    refine wp_iconst rfl ?_
    exact wp_zret rfl rfl (by decide) H
theorem S247_918 {X : Nat × (Int → Int)} {h : HP} {Q : bQ} (x3 : Int) (s0 : Int) (H : ((R32 (x3 + 1)) ∧ ((0 ≤ (x3 + 1) ∧ (x3 + 1) < (X.1 : Int)) ∧ Wp X 2 131 0 [vr 89, vi (X.2 (x3 + 1))] [] h (fun v h' => Wp X 17 247 927 [vr 5, vr 6, vr 89, vi x3] (psh v [vi s0]) h' Q)))) : Wp X 17 247 918 [vr 5, vr 6, vr 89, vi x3] [vi s0] h Q := by
  refine wp_aload rfl rfl ?_
  refine wp_aload rfl rfl ?_
  refine wp_iload rfl rfl ?_
  refine wp_iconst rfl ?_
  refine wp_iadd rfl ?_
  have g1 := H.1
  replace H := H.2
  refine Wp.topI (y := (x3 + 1)) (w32_I g1) ?_
  have g2 := H.1
  replace H := H.2
  refine wp_script rfl g2 ?_
  exact wp_call (k := 131) (ρ2 := 2) (L2 := [vr 89, vi (X.2 (x3 + 1))]) rfl rfl rfl (Nat.le_of_ble_eq_true rfl) (Nat.le_of_ble_eq_true rfl) (Nat.le_of_ble_eq_true rfl) (rcv_V rfl (congrArg Prod.fst (kf_89 X.1))) rfl H
theorem S247_927 {X : Nat × (Int → Int)} {h : HP} {Q : bQ} (x3 : Int) (s0 : Int) (s1 : Int) (H : ((s1 = s0 → ((R32 (x3 + 6)) ∧ Wp X 17 247 18 [vr 5, vr 6, vr 89, vi (x3 + 6)] [] h Q)) ∧ (s1 ≠ s0 → Q (some (vi 0)) h))) : Wp X 17 247 927 [vr 5, vr 6, vr 89, vi x3] [vi s0, vi s1] h Q := by
  refine wp_iceq (tn := 1217) rfl rfl (fun c1 => ?_) (fun c1 => ?_)
  · replace H := H.1 c1
    have g2 := H.1
    replace H := H.2
    refine wp_iincR (L2 := [vr 5, vr 6, vr 89, vi (x3 + 6)]) rfl rfl g2 rfl ?_
    refine wp_goto (tn := 18) rfl rfl ?_
    exact H
  · replace H := H.2 c1
    refine wp_iconst rfl ?_
    exact wp_zret rfl rfl (by decide) H
theorem S247_951 {X : Nat × (Int → Int)} {h : HP} {Q : bQ} (x3 : Int) (s0 : Int) (H : ((R32 (x3 + 1)) ∧ ((0 ≤ (x3 + 1) ∧ (x3 + 1) < (X.1 : Int)) ∧ ((R32 (x3 + 2)) ∧ ((0 ≤ (x3 + 2) ∧ (x3 + 2) < (X.1 : Int)) ∧ ((R32 (x3 + 3)) ∧ ((0 ≤ (x3 + 3) ∧ (x3 + 3) < (X.1 : Int)) ∧ Wp X 2 53 0 [vr 89, vi (X.2 (x3 + 1)), vi (X.2 (x3 + 2)), vi (X.2 (x3 + 3)), vu] [] h (fun v h' => Wp X 17 247 970 [vr 5, vr 6, vr 89, vi x3] (psh v [vi s0]) h' Q)))))))) : Wp X 17 247 951 [vr 5, vr 6, vr 89, vi x3] [vi s0] h Q := by
  refine wp_aload rfl rfl ?_
  refine wp_aload rfl rfl ?_
  refine wp_iload rfl rfl ?_
  refine wp_iconst rfl ?_
  refine wp_iadd rfl ?_
  have g1 := H.1
  replace H := H.2
  refine Wp.topI (y := (x3 + 1)) (w32_I g1) ?_
  have g2 := H.1
  replace H := H.2
  refine wp_script rfl g2 ?_
  refine wp_aload rfl rfl ?_
  refine wp_iload rfl rfl ?_
  refine wp_iconst rfl ?_
  refine wp_iadd rfl ?_
  have g3 := H.1
  replace H := H.2
  refine Wp.topI (y := (x3 + 2)) (w32_I g3) ?_
  have g4 := H.1
  replace H := H.2
  refine wp_script rfl g4 ?_
  refine wp_aload rfl rfl ?_
  refine wp_iload rfl rfl ?_
  refine wp_iconst rfl ?_
  refine wp_iadd rfl ?_
  have g5 := H.1
  replace H := H.2
  refine Wp.topI (y := (x3 + 3)) (w32_I g5) ?_
  have g6 := H.1
  replace H := H.2
  refine wp_script rfl g6 ?_
  exact wp_call (k := 53) (ρ2 := 2) (L2 := [vr 89, vi (X.2 (x3 + 1)), vi (X.2 (x3 + 2)), vi (X.2 (x3 + 3)), vu]) rfl rfl rfl (Nat.le_of_ble_eq_true rfl) (Nat.le_of_ble_eq_true rfl) (Nat.le_of_ble_eq_true rfl) (rcv_V rfl (congrArg Prod.fst (kf_89 X.1))) rfl H
theorem S247_970 {X : Nat × (Int → Int)} {h : HP} {Q : bQ} (x3 : Int) (s0 : Int) (s1 : Int) (H : ((s1 = s0 → ((R32 (x3 + 6)) ∧ Wp X 17 247 18 [vr 5, vr 6, vr 89, vi (x3 + 6)] [] h Q)) ∧ (s1 ≠ s0 → Q (some (vi 0)) h))) : Wp X 17 247 970 [vr 5, vr 6, vr 89, vi x3] [vi s0, vi s1] h Q := by
  refine wp_iceq (tn := 1217) rfl rfl (fun c1 => ?_) (fun c1 => ?_)
  · replace H := H.1 c1
    have g2 := H.1
    replace H := H.2
    refine wp_iincR (L2 := [vr 5, vr 6, vr 89, vi (x3 + 6)]) rfl rfl g2 rfl ?_
    refine wp_goto (tn := 18) rfl rfl ?_
    exact H
  · replace H := H.2 c1
    refine wp_iconst rfl ?_
    exact wp_zret rfl rfl (by decide) H
theorem S247_984 {X : Nat × (Int → Int)} {h : HP} {Q : bQ} (x3 : Int) (s0 : Int) (H : ((R32 (x3 + 1)) ∧ ((0 ≤ (x3 + 1) ∧ (x3 + 1) < (X.1 : Int)) ∧ Wp X 2 54 0 [vr 89, vi (X.2 (x3 + 1))] [] h (fun v h' => Wp X 17 247 993 [vr 5, vr 6, vr 89, vi x3] (psh v [vi s0]) h' Q)))) : Wp X 17 247 984 [vr 5, vr 6, vr 89, vi x3] [vi s0] h Q := by
  refine wp_aload rfl rfl ?_
  refine wp_aload rfl rfl ?_
  refine wp_iload rfl rfl ?_
  refine wp_iconst rfl ?_
  refine wp_iadd rfl ?_
  have g1 := H.1
  replace H := H.2
  refine Wp.topI (y := (x3 + 1)) (w32_I g1) ?_
  have g2 := H.1
  replace H := H.2
  refine wp_script rfl g2 ?_
  exact wp_call (k := 54) (ρ2 := 2) (L2 := [vr 89, vi (X.2 (x3 + 1))]) rfl rfl rfl (Nat.le_of_ble_eq_true rfl) (Nat.le_of_ble_eq_true rfl) (Nat.le_of_ble_eq_true rfl) (rcv_V rfl (congrArg Prod.fst (kf_89 X.1))) rfl H
theorem S247_993 {X : Nat × (Int → Int)} {h : HP} {Q : bQ} (x3 : Int) (s0 : Int) (s1 : Int) (H : ((s1 = s0 → ((R32 (x3 + 6)) ∧ Wp X 17 247 18 [vr 5, vr 6, vr 89, vi (x3 + 6)] [] h Q)) ∧ (s1 ≠ s0 → Q (some (vi 0)) h))) : Wp X 17 247 993 [vr 5, vr 6, vr 89, vi x3] [vi s0, vi s1] h Q := by
  refine wp_iceq (tn := 1217) rfl rfl (fun c1 => ?_) (fun c1 => ?_)
  · replace H := H.1 c1
    have g2 := H.1
    replace H := H.2
    refine wp_iincR (L2 := [vr 5, vr 6, vr 89, vi (x3 + 6)]) rfl rfl g2 rfl ?_
    refine wp_goto (tn := 18) rfl rfl ?_
    exact H
  · replace H := H.2 c1
    refine wp_iconst rfl ?_
    exact wp_zret rfl rfl (by decide) H
theorem S247_1022 {X : Nat × (Int → Int)} {h : HP} {Q : bQ} (x3 : Int) (s0 : Int) (H : ((R32 (x3 + 1)) ∧ ((0 ≤ (x3 + 1) ∧ (x3 + 1) < (X.1 : Int)) ∧ ((R32 (x3 + 2)) ∧ ((0 ≤ (x3 + 2) ∧ (x3 + 2) < (X.1 : Int)) ∧ ((R32 (x3 + 3)) ∧ ((0 ≤ (x3 + 3) ∧ (x3 + 3) < (X.1 : Int)) ∧ ((R32 (x3 + 4)) ∧ ((0 ≤ (x3 + 4) ∧ (x3 + 4) < (X.1 : Int)) ∧ Wp X 2 57 0 [vr 89, vi (X.2 (x3 + 1)), vi (X.2 (x3 + 2)), vi (X.2 (x3 + 3)), vi (X.2 (x3 + 4)), vu] [] h (fun v h' => Wp X 17 247 1046 [vr 5, vr 6, vr 89, vi x3] (psh v [vi s0]) h' Q)))))))))) : Wp X 17 247 1022 [vr 5, vr 6, vr 89, vi x3] [vi s0] h Q := by
  refine wp_aload rfl rfl ?_
  refine wp_aload rfl rfl ?_
  refine wp_iload rfl rfl ?_
  refine wp_iconst rfl ?_
  refine wp_iadd rfl ?_
  have g1 := H.1
  replace H := H.2
  refine Wp.topI (y := (x3 + 1)) (w32_I g1) ?_
  have g2 := H.1
  replace H := H.2
  refine wp_script rfl g2 ?_
  refine wp_aload rfl rfl ?_
  refine wp_iload rfl rfl ?_
  refine wp_iconst rfl ?_
  refine wp_iadd rfl ?_
  have g3 := H.1
  replace H := H.2
  refine Wp.topI (y := (x3 + 2)) (w32_I g3) ?_
  have g4 := H.1
  replace H := H.2
  refine wp_script rfl g4 ?_
  refine wp_aload rfl rfl ?_
  refine wp_iload rfl rfl ?_
  refine wp_iconst rfl ?_
  refine wp_iadd rfl ?_
  have g5 := H.1
  replace H := H.2
  refine Wp.topI (y := (x3 + 3)) (w32_I g5) ?_
  have g6 := H.1
  replace H := H.2
  refine wp_script rfl g6 ?_
  refine wp_aload rfl rfl ?_
  refine wp_iload rfl rfl ?_
  refine wp_iconst rfl ?_
  refine wp_iadd rfl ?_
  have g7 := H.1
  replace H := H.2
  refine Wp.topI (y := (x3 + 4)) (w32_I g7) ?_
  have g8 := H.1
  replace H := H.2
  refine wp_script rfl g8 ?_
  exact wp_call (k := 57) (ρ2 := 2) (L2 := [vr 89, vi (X.2 (x3 + 1)), vi (X.2 (x3 + 2)), vi (X.2 (x3 + 3)), vi (X.2 (x3 + 4)), vu]) rfl rfl rfl (Nat.le_of_ble_eq_true rfl) (Nat.le_of_ble_eq_true rfl) (Nat.le_of_ble_eq_true rfl) (rcv_V rfl (congrArg Prod.fst (kf_89 X.1))) rfl H
theorem S247_1046 {X : Nat × (Int → Int)} {h : HP} {Q : bQ} (x3 : Int) (s0 : Int) (s1 : Int) (H : ((s1 = s0 → ((R32 (x3 + 6)) ∧ Wp X 17 247 18 [vr 5, vr 6, vr 89, vi (x3 + 6)] [] h Q)) ∧ (s1 ≠ s0 → Q (some (vi 0)) h))) : Wp X 17 247 1046 [vr 5, vr 6, vr 89, vi x3] [vi s0, vi s1] h Q := by
  refine wp_iceq (tn := 1217) rfl rfl (fun c1 => ?_) (fun c1 => ?_)
  · replace H := H.1 c1
    have g2 := H.1
    replace H := H.2
    refine wp_iincR (L2 := [vr 5, vr 6, vr 89, vi (x3 + 6)]) rfl rfl g2 rfl ?_
    refine wp_goto (tn := 18) rfl rfl ?_
    exact H
  · replace H := H.2 c1
    refine wp_iconst rfl ?_
    exact wp_zret rfl rfl (by decide) H
theorem S247_1070 {X : Nat × (Int → Int)} {h : HP} {Q : bQ} (x3 : Int) (s0 : Int) (H : ((R32 (x3 + 1)) ∧ ((0 ≤ (x3 + 1) ∧ (x3 + 1) < (X.1 : Int)) ∧ ((R32 (x3 + 2)) ∧ ((0 ≤ (x3 + 2) ∧ (x3 + 2) < (X.1 : Int)) ∧ ((R32 (x3 + 3)) ∧ ((0 ≤ (x3 + 3) ∧ (x3 + 3) < (X.1 : Int)) ∧ Wp X 2 58 0 [vr 89, vi (X.2 (x3 + 1)), vi (X.2 (x3 + 2)), vi (X.2 (x3 + 3))] [] h (fun v h' => Wp X 17 247 1089 [vr 5, vr 6, vr 89, vi x3] (psh v [vi s0]) h' Q)))))))) : Wp X 17 247 1070 [vr 5, vr 6, vr 89, vi x3] [vi s0] h Q := by
  refine wp_aload rfl rfl ?_
  refine wp_aload rfl rfl ?_
  refine wp_iload rfl rfl ?_
  refine wp_iconst rfl ?_
  refine wp_iadd rfl ?_
  have g1 := H.1
  replace H := H.2
  refine Wp.topI (y := (x3 + 1)) (w32_I g1) ?_
  have g2 := H.1
  replace H := H.2
  refine wp_script rfl g2 ?_
  refine wp_aload rfl rfl ?_
  refine wp_iload rfl rfl ?_
  refine wp_iconst rfl ?_
  refine wp_iadd rfl ?_
  have g3 := H.1
  replace H := H.2
  refine Wp.topI (y := (x3 + 2)) (w32_I g3) ?_
  have g4 := H.1
  replace H := H.2
  refine wp_script rfl g4 ?_
  refine wp_aload rfl rfl ?_
  refine wp_iload rfl rfl ?_
  refine wp_iconst rfl ?_
  refine wp_iadd rfl ?_
  have g5 := H.1
  replace H := H.2
  refine Wp.topI (y := (x3 + 3)) (w32_I g5) ?_
  have g6 := H.1
  replace H := H.2
  refine wp_script rfl g6 ?_
  exact wp_call (k := 58) (ρ2 := 2) (L2 := [vr 89, vi (X.2 (x3 + 1)), vi (X.2 (x3 + 2)), vi (X.2 (x3 + 3))]) rfl rfl rfl (Nat.le_of_ble_eq_true rfl) (Nat.le_of_ble_eq_true rfl) (Nat.le_of_ble_eq_true rfl) (rcv_V rfl (congrArg Prod.fst (kf_89 X.1))) rfl H
theorem S247_1089 {X : Nat × (Int → Int)} {h : HP} {Q : bQ} (x3 : Int) (s0 : Int) (s1 : Int) (H : ((s1 = s0 → ((R32 (x3 + 6)) ∧ Wp X 17 247 18 [vr 5, vr 6, vr 89, vi (x3 + 6)] [] h Q)) ∧ (s1 ≠ s0 → Q (some (vi 0)) h))) : Wp X 17 247 1089 [vr 5, vr 6, vr 89, vi x3] [vi s0, vi s1] h Q := by
  refine wp_iceq (tn := 1217) rfl rfl (fun c1 => ?_) (fun c1 => ?_)
  · replace H := H.1 c1
    have g2 := H.1
    replace H := H.2
    refine wp_iincR (L2 := [vr 5, vr 6, vr 89, vi (x3 + 6)]) rfl rfl g2 rfl ?_
    refine wp_goto (tn := 18) rfl rfl ?_
    exact H
  · replace H := H.2 c1
    refine wp_iconst rfl ?_
    exact wp_zret rfl rfl (by decide) H
theorem S247_1123 {X : Nat × (Int → Int)} {h : HP} {Q : bQ} (x3 : Int) (s0 : Int) (H : ((R32 (x3 + 1)) ∧ ((0 ≤ (x3 + 1) ∧ (x3 + 1) < (X.1 : Int)) ∧ ((R32 (x3 + 2)) ∧ ((0 ≤ (x3 + 2) ∧ (x3 + 2) < (X.1 : Int)) ∧ ((R32 (x3 + 3)) ∧ ((0 ≤ (x3 + 3) ∧ (x3 + 3) < (X.1 : Int)) ∧ ((R32 (x3 + 4)) ∧ ((0 ≤ (x3 + 4) ∧ (x3 + 4) < (X.1 : Int)) ∧ ((R32 (x3 + 5)) ∧ ((0 ≤ (x3 + 5) ∧ (x3 + 5) < (X.1 : Int)) ∧ Wp X 2 59 0 [vr 89, vi (X.2 (x3 + 1)), vi (X.2 (x3 + 2)), vi (X.2 (x3 + 3)), vi (X.2 (x3 + 4)), vi (X.2 (x3 + 5)), vu] [] h (fun v h' => Wp X 17 247 1152 [vr 5, vr 6, vr 89, vi x3] (psh v [vi s0]) h' Q)))))))))))) : Wp X 17 247 1123 [vr 5, vr 6, vr 89, vi x3] [vi s0] h Q := by
  refine wp_aload rfl rfl ?_
  refine wp_aload rfl rfl ?_
  refine wp_iload rfl rfl ?_
  refine wp_iconst rfl ?_
  refine wp_iadd rfl ?_
  have g1 := H.1
  replace H := H.2
  refine Wp.topI (y := (x3 + 1)) (w32_I g1) ?_
  have g2 := H.1
  replace H := H.2
  refine wp_script rfl g2 ?_
  refine wp_aload rfl rfl ?_
  refine wp_iload rfl rfl ?_
  refine wp_iconst rfl ?_
  refine wp_iadd rfl ?_
  have g3 := H.1
  replace H := H.2
  refine Wp.topI (y := (x3 + 2)) (w32_I g3) ?_
  have g4 := H.1
  replace H := H.2
  refine wp_script rfl g4 ?_
  refine wp_aload rfl rfl ?_
  refine wp_iload rfl rfl ?_
  refine wp_iconst rfl ?_
  refine wp_iadd rfl ?_
  have g5 := H.1
  replace H := H.2
  refine Wp.topI (y := (x3 + 3)) (w32_I g5) ?_
  have g6 := H.1
  replace H := H.2
  refine wp_script rfl g6 ?_
  refine wp_aload rfl rfl ?_
  refine wp_iload rfl rfl ?_
  refine wp_iconst rfl ?_
  refine wp_iadd rfl ?_
  have g7 := H.1
  replace H := H.2
  refine Wp.topI (y := (x3 + 4)) (w32_I g7) ?_
  have g8 := H.1
  replace H := H.2
  refine wp_script rfl g8 ?_
  refine wp_aload rfl rfl ?_
  refine wp_iload rfl rfl ?_
  refine wp_iconst rfl ?_
  refine wp_iadd rfl ?_
  have g9 := H.1
  replace H := H.2
  refine Wp.topI (y := (x3 + 5)) (w32_I g9) ?_
  have g10 := H.1
  replace H := H.2
  refine wp_script rfl g10 ?_
  exact wp_call (k := 59) (ρ2 := 2) (L2 := [vr 89, vi (X.2 (x3 + 1)), vi (X.2 (x3 + 2)), vi (X.2 (x3 + 3)), vi (X.2 (x3 + 4)), vi (X.2 (x3 + 5)), vu]) rfl rfl rfl (Nat.le_of_ble_eq_true rfl) (Nat.le_of_ble_eq_true rfl) (Nat.le_of_ble_eq_true rfl) (rcv_V rfl (congrArg Prod.fst (kf_89 X.1))) rfl H
theorem S247_1152 {X : Nat × (Int → Int)} {h : HP} {Q : bQ} (x3 : Int) (s0 : Int) (s1 : Int) (H : ((s1 = s0 → ((R32 (x3 + 6)) ∧ Wp X 17 247 18 [vr 5, vr 6, vr 89, vi (x3 + 6)] [] h Q)) ∧ (s1 ≠ s0 → Q (some (vi 0)) h))) : Wp X 17 247 1152 [vr 5, vr 6, vr 89, vi x3] [vi s0, vi s1] h Q := by
  refine wp_iceq (tn := 1217) rfl rfl (fun c1 => ?_) (fun c1 => ?_)
  · replace H := H.1 c1
    have g2 := H.1
    replace H := H.2
    refine wp_iincR (L2 := [vr 5, vr 6, vr 89, vi (x3 + 6)]) rfl rfl g2 rfl ?_
    refine wp_goto (tn := 18) rfl rfl ?_
    exact H
  · replace H := H.2 c1
    refine wp_iconst rfl ?_
    exact wp_zret rfl rfl (by decide) H
theorem S247_1166 {X : Nat × (Int → Int)} {h : HP} {Q : bQ} (x3 : Int) (s0 : Int) (H : ((R32 (x3 + 1)) ∧ ((0 ≤ (x3 + 1) ∧ (x3 + 1) < (X.1 : Int)) ∧ Wp X 4 132 0 [vr 89, vi (X.2 (x3 + 1)), vu, vu] [] h (fun v h' => Wp X 17 247 1175 [vr 5, vr 6, vr 89, vi x3] (psh v [vi s0]) h' Q)))) : Wp X 17 247 1166 [vr 5, vr 6, vr 89, vi x3] [vi s0] h Q := by
  refine wp_aload rfl rfl ?_
  refine wp_aload rfl rfl ?_
  refine wp_iload rfl rfl ?_
  refine wp_iconst rfl ?_
  refine wp_iadd rfl ?_
  have g1 := H.1
  replace H := H.2
  refine Wp.topI (y := (x3 + 1)) (w32_I g1) ?_
  have g2 := H.1
  replace H := H.2
  refine wp_script rfl g2 ?_
  exact wp_call (k := 132) (ρ2 := 4) (L2 := [vr 89, vi (X.2 (x3 + 1)), vu, vu]) rfl rfl rfl (Nat.le_of_ble_eq_true rfl) (Nat.le_of_ble_eq_true rfl) (Nat.le_of_ble_eq_true rfl) (rcv_V rfl (congrArg Prod.fst (kf_89 X.1))) rfl H
theorem S247_1175 {X : Nat × (Int → Int)} {h : HP} {Q : bQ} (x3 : Int) (s0 : Int) (s1 : Int) (H : ((s1 = s0 → ((R32 (x3 + 6)) ∧ Wp X 17 247 18 [vr 5, vr 6, vr 89, vi (x3 + 6)] [] h Q)) ∧ (s1 ≠ s0 → Q (some (vi 0)) h))) : Wp X 17 247 1175 [vr 5, vr 6, vr 89, vi x3] [vi s0, vi s1] h Q := by
  refine wp_iceq (tn := 1217) rfl rfl (fun c1 => ?_) (fun c1 => ?_)
  · replace H := H.1 c1
    have g2 := H.1
    replace H := H.2
    refine wp_iincR (L2 := [vr 5, vr 6, vr 89, vi (x3 + 6)]) rfl rfl g2 rfl ?_
    refine wp_goto (tn := 18) rfl rfl ?_
    exact H
  · replace H := H.2 c1
    refine wp_iconst rfl ?_
    exact wp_zret rfl rfl (by decide) H
theorem S247_1189 {X : Nat × (Int → Int)} {h : HP} {Q : bQ} (x3 : Int) (s0 : Int) (H : ((R32 (x3 + 1)) ∧ ((0 ≤ (x3 + 1) ∧ (x3 + 1) < (X.1 : Int)) ∧ Wp X 1 133 0 [vr 89, vi (X.2 (x3 + 1)), vu, vu] [] h (fun v h' => Wp X 17 247 1198 [vr 5, vr 6, vr 89, vi x3] (psh v [vi s0]) h' Q)))) : Wp X 17 247 1189 [vr 5, vr 6, vr 89, vi x3] [vi s0] h Q := by
  refine wp_aload rfl rfl ?_
  refine wp_aload rfl rfl ?_
  refine wp_iload rfl rfl ?_
  refine wp_iconst rfl ?_
  refine wp_iadd rfl ?_
  have g1 := H.1
  replace H := H.2
  refine Wp.topI (y := (x3 + 1)) (w32_I g1) ?_
  have g2 := H.1
  replace H := H.2
  refine wp_script rfl g2 ?_
  exact wp_call (k := 133) (ρ2 := 1) (L2 := [vr 89, vi (X.2 (x3 + 1)), vu, vu]) rfl rfl rfl (Nat.le_of_ble_eq_true rfl) (Nat.le_of_ble_eq_true rfl) (Nat.le_of_ble_eq_true rfl) (rcv_V rfl (congrArg Prod.fst (kf_89 X.1))) rfl H
theorem S247_1198 {X : Nat × (Int → Int)} {h : HP} {Q : bQ} (x3 : Int) (s0 : Int) (s1 : Int) (H : ((s1 = s0 → ((R32 (x3 + 6)) ∧ Wp X 17 247 18 [vr 5, vr 6, vr 89, vi (x3 + 6)] [] h Q)) ∧ (s1 ≠ s0 → Q (some (vi 0)) h))) : Wp X 17 247 1198 [vr 5, vr 6, vr 89, vi x3] [vi s0, vi s1] h Q := by
  refine wp_iceq (tn := 1217) rfl rfl (fun c1 => ?_) (fun c1 => ?_)
  · replace H := H.1 c1
    have g2 := H.1
    replace H := H.2
    refine wp_iincR (L2 := [vr 5, vr 6, vr 89, vi (x3 + 6)]) rfl rfl g2 rfl ?_
    refine wp_goto (tn := 18) rfl rfl ?_
    exact H
  · replace H := H.2 c1
    refine wp_iconst rfl ?_
    exact wp_zret rfl rfl (by decide) H
theorem S247_1207 {X : Nat × (Int → Int)} {h : HP} {Q : bQ} (x3 : Int) (s0 : Int) (H : Wp X 7 134 0 [vr 89, vu, vu, vu] [] h (fun v h' => Wp X 17 247 1211 [vr 5, vr 6, vr 89, vi x3] (psh v [vl s0]) h' Q)) : Wp X 17 247 1207 [vr 5, vr 6, vr 89, vi x3] [vl s0] h Q := by
  refine wp_aload rfl rfl ?_
  exact wp_call (k := 134) (ρ2 := 7) (L2 := [vr 89, vu, vu, vu]) rfl rfl rfl (Nat.le_of_ble_eq_true rfl) (Nat.le_of_ble_eq_true rfl) (Nat.le_of_ble_eq_true rfl) (rcv_V rfl (congrArg Prod.fst (kf_89 X.1))) rfl H
theorem S247_1211 {X : Nat × (Int → Int)} {h : HP} {Q : bQ} (x3 : Int) (s0 : Int) (s1 : Int) (H : (((lcp s1 s0) = 0 → ((R32 (x3 + 6)) ∧ Wp X 17 247 18 [vr 5, vr 6, vr 89, vi (x3 + 6)] [] h Q)) ∧ ((lcp s1 s0) ≠ 0 → Q (some (vi 0)) h))) : Wp X 17 247 1211 [vr 5, vr 6, vr 89, vi x3] [vl s0, vl s1] h Q := by
  refine wp_lcmp rfl ?_
  refine wp_ifeq (tn := 1217) rfl rfl (fun c1 => ?_) (fun c1 => ?_)
  · replace H := H.1 c1
    have g2 := H.1
    replace H := H.2
    refine wp_iincR (L2 := [vr 5, vr 6, vr 89, vi (x3 + 6)]) rfl rfl g2 rfl ?_
    refine wp_goto (tn := 18) rfl rfl ?_
    exact H
  · replace H := H.2 c1
    refine wp_iconst rfl ?_
    exact wp_zret rfl rfl (by decide) H
