-- ===== the methods run symbolically, 7 (by program: wip/whole/gen_sym.py) =====
/-- Odds.step(L$ZoneRules;II)V, from 0 -/
theorem S181_69_49_0 {X : Nat × (Int → Int)} {h : HP} {Q : bQ} (x2 : Int) (x3 : Int) (H : ((R32 (3 * x2)) ∧ ((((i32 1 <<< (i32 (3 * x2) &&& 31)).toInt) < 4096 → ((R32 (3 * x3)) ∧ ((((i32 1 <<< (i32 (3 * x3) &&& 31)).toInt) < 4096 → Wp X 2 181 29 [vr 69, vr 49, vi x2, vi x3, vi ((i32 1 <<< (i32 (3 * x2) &&& 31)).toInt), vi ((i32 1 <<< (i32 (3 * x3) &&& 31)).toInt), vi 0] [] h Q) ∧ (4096 ≤ ((i32 1 <<< (i32 (3 * x3) &&& 31)).toInt) → Wp X 2 181 29 [vr 69, vr 49, vi x2, vi x3, vi ((i32 1 <<< (i32 (3 * x2) &&& 31)).toInt), vi 4096, vi 0] [] h Q)))) ∧ (4096 ≤ ((i32 1 <<< (i32 (3 * x2) &&& 31)).toInt) → ((R32 (3 * x3)) ∧ ((((i32 1 <<< (i32 (3 * x3) &&& 31)).toInt) < 4096 → Wp X 2 181 29 [vr 69, vr 49, vi x2, vi x3, vi 4096, vi ((i32 1 <<< (i32 (3 * x3) &&& 31)).toInt), vi 0] [] h Q) ∧ (4096 ≤ ((i32 1 <<< (i32 (3 * x3) &&& 31)).toInt) → Wp X 2 181 29 [vr 69, vr 49, vi x2, vi x3, vi 4096, vi 4096, vi 0] [] h Q))))))) : Wp X 2 181 0 [vr 69, vr 49, vi x2, vi x3, vu, vu, vu] [] h Q := by
  refine wp_iconst rfl ?_
  refine wp_iconst rfl ?_
  refine wp_iconst rfl ?_
  refine wp_iload rfl rfl ?_
  refine wp_imul rfl ?_
  have g1 := H.1
  replace H := H.2
  refine Wp.topI (y := (3 * x2)) (w32_I g1) ?_
  refine wp_ishl rfl ?_
  refine wp_call (k := 253) (ρ2 := 0) (L2 := [vi 4096, vi ((i32 1 <<< (i32 (3 * x2) &&& 31)).toInt)]) rfl rfl rfl (Nat.le_of_ble_eq_true rfl) (Nat.le_of_ble_eq_true rfl) (Nat.le_of_ble_eq_true rfl) (rcv_S rfl) rfl ?_
  refine wp_iload rfl rfl ?_
  refine wp_iload rfl rfl ?_
  refine wp_icgt (tn := 9) rfl rfl (fun c2 => ?_) (fun c2 => ?_)
  · replace H := H.1 c2
    refine wp_iload rfl rfl ?_
    refine wp_iret rfl rfl ?_
    show Wp X _ 181 11 [vr 69, vr 49, vi x2, vi x3, vu, vu, vu] [vi ((i32 1 <<< (i32 (3 * x2) &&& 31)).toInt)] _ _
    refine wp_istore (L2 := [vr 69, vr 49, vi x2, vi x3, vi ((i32 1 <<< (i32 (3 * x2) &&& 31)).toInt), vu, vu]) rfl (Nat.le_of_ble_eq_true rfl) rfl ?_
    refine wp_iconst rfl ?_
    refine wp_iconst rfl ?_
    refine wp_iconst rfl ?_
    refine wp_iload rfl rfl ?_
    refine wp_imul rfl ?_
    have g3 := H.1
    replace H := H.2
    refine Wp.topI (y := (3 * x3)) (w32_I g3) ?_
    refine wp_ishl rfl ?_
    refine wp_call (k := 253) (ρ2 := 0) (L2 := [vi 4096, vi ((i32 1 <<< (i32 (3 * x3) &&& 31)).toInt)]) rfl rfl rfl (Nat.le_of_ble_eq_true rfl) (Nat.le_of_ble_eq_true rfl) (Nat.le_of_ble_eq_true rfl) (rcv_S rfl) rfl ?_
    refine wp_iload rfl rfl ?_
    refine wp_iload rfl rfl ?_
    refine wp_icgt (tn := 9) rfl rfl (fun c4 => ?_) (fun c4 => ?_)
    · replace H := H.1 c4
      refine wp_iload rfl rfl ?_
      refine wp_iret rfl rfl ?_
      show Wp X _ 181 24 [vr 69, vr 49, vi x2, vi x3, vi ((i32 1 <<< (i32 (3 * x2) &&& 31)).toInt), vu, vu] [vi ((i32 1 <<< (i32 (3 * x3) &&& 31)).toInt)] _ _
      refine wp_istore (L2 := [vr 69, vr 49, vi x2, vi x3, vi ((i32 1 <<< (i32 (3 * x2) &&& 31)).toInt), vi ((i32 1 <<< (i32 (3 * x3) &&& 31)).toInt), vu]) rfl (Nat.le_of_ble_eq_true rfl) rfl ?_
      refine wp_iconst rfl ?_
      refine wp_istore (L2 := [vr 69, vr 49, vi x2, vi x3, vi ((i32 1 <<< (i32 (3 * x2) &&& 31)).toInt), vi ((i32 1 <<< (i32 (3 * x3) &&& 31)).toInt), vi 0]) rfl (Nat.le_of_ble_eq_true rfl) rfl ?_
      exact H
    · replace H := H.2 c4
      refine wp_iload rfl rfl ?_
      refine wp_goto (tn := 10) rfl rfl ?_
      refine wp_iret rfl rfl ?_
      show Wp X _ 181 24 [vr 69, vr 49, vi x2, vi x3, vi ((i32 1 <<< (i32 (3 * x2) &&& 31)).toInt), vu, vu] [vi 4096] _ _
      refine wp_istore (L2 := [vr 69, vr 49, vi x2, vi x3, vi ((i32 1 <<< (i32 (3 * x2) &&& 31)).toInt), vi 4096, vu]) rfl (Nat.le_of_ble_eq_true rfl) rfl ?_
      refine wp_iconst rfl ?_
      refine wp_istore (L2 := [vr 69, vr 49, vi x2, vi x3, vi ((i32 1 <<< (i32 (3 * x2) &&& 31)).toInt), vi 4096, vi 0]) rfl (Nat.le_of_ble_eq_true rfl) rfl ?_
      exact H
  · replace H := H.2 c2
    refine wp_iload rfl rfl ?_
    refine wp_goto (tn := 10) rfl rfl ?_
    refine wp_iret rfl rfl ?_
    show Wp X _ 181 11 [vr 69, vr 49, vi x2, vi x3, vu, vu, vu] [vi 4096] _ _
    refine wp_istore (L2 := [vr 69, vr 49, vi x2, vi x3, vi 4096, vu, vu]) rfl (Nat.le_of_ble_eq_true rfl) rfl ?_
    refine wp_iconst rfl ?_
    refine wp_iconst rfl ?_
    refine wp_iconst rfl ?_
    refine wp_iload rfl rfl ?_
    refine wp_imul rfl ?_
    have g5 := H.1
    replace H := H.2
    refine Wp.topI (y := (3 * x3)) (w32_I g5) ?_
    refine wp_ishl rfl ?_
    refine wp_call (k := 253) (ρ2 := 0) (L2 := [vi 4096, vi ((i32 1 <<< (i32 (3 * x3) &&& 31)).toInt)]) rfl rfl rfl (Nat.le_of_ble_eq_true rfl) (Nat.le_of_ble_eq_true rfl) (Nat.le_of_ble_eq_true rfl) (rcv_S rfl) rfl ?_
    refine wp_iload rfl rfl ?_
    refine wp_iload rfl rfl ?_
    refine wp_icgt (tn := 9) rfl rfl (fun c6 => ?_) (fun c6 => ?_)
    · replace H := H.1 c6
      refine wp_iload rfl rfl ?_
      refine wp_iret rfl rfl ?_
      show Wp X _ 181 24 [vr 69, vr 49, vi x2, vi x3, vi 4096, vu, vu] [vi ((i32 1 <<< (i32 (3 * x3) &&& 31)).toInt)] _ _
      refine wp_istore (L2 := [vr 69, vr 49, vi x2, vi x3, vi 4096, vi ((i32 1 <<< (i32 (3 * x3) &&& 31)).toInt), vu]) rfl (Nat.le_of_ble_eq_true rfl) rfl ?_
      refine wp_iconst rfl ?_
      refine wp_istore (L2 := [vr 69, vr 49, vi x2, vi x3, vi 4096, vi ((i32 1 <<< (i32 (3 * x3) &&& 31)).toInt), vi 0]) rfl (Nat.le_of_ble_eq_true rfl) rfl ?_
      exact H
    · replace H := H.2 c6
      refine wp_iload rfl rfl ?_
      refine wp_goto (tn := 10) rfl rfl ?_
      refine wp_iret rfl rfl ?_
      show Wp X _ 181 24 [vr 69, vr 49, vi x2, vi x3, vi 4096, vu, vu] [vi 4096] _ _
      refine wp_istore (L2 := [vr 69, vr 49, vi x2, vi x3, vi 4096, vi 4096, vu]) rfl (Nat.le_of_ble_eq_true rfl) rfl ?_
      refine wp_iconst rfl ?_
      refine wp_istore (L2 := [vr 69, vr 49, vi x2, vi x3, vi 4096, vi 4096, vi 0]) rfl (Nat.le_of_ble_eq_true rfl) rfl ?_
      exact H
/-- Odds.step(L$ZoneRules;II)V, from 29 -/
theorem S181_69_49_29 {X : Nat × (Int → Int)} {h : HP} {Q : bQ} (x2 : Int) (zx3 : aV) (x4 : Int) (x5 : Int) (x6 : Int) (H : ((x5 ≤ x6 → Wp X 2 181 58 [vr 69, vr 49, vi x2, zx3, vi x4, vi x5, vi 0] [] (upd2 h 69 4 0) Q) ∧ (x6 < x5 → (((h 69 3) = 72 ∨ (h 69 3) = 73) ∧ (((h 69 3) = 72 → ((0 ≤ x6 ∧ x6 < 4096) ∧ Wp X 2 181 29 [vr 69, vr 49, vi x2, zx3, vi x4, vi x5, vi (x6 + 1)] [] (upd2 h 72 x6 0) Q)) ∧ ((h 69 3) = 73 → ((0 ≤ x6 ∧ x6 < 4096) ∧ Wp X 2 181 29 [vr 69, vr 49, vi x2, zx3, vi x4, vi x5, vi (x6 + 1)] [] (upd2 h 73 x6 0) Q))))))) : Wp X 2 181 29 [vr 69, vr 49, vi x2, zx3, vi x4, vi x5, vi x6] [] h Q := by
  refine wp_iload rfl rfl ?_
  refine wp_iload rfl rfl ?_
  refine wp_icge (tn := 50) rfl rfl (fun c1 => ?_) (fun c1 => ?_)
  · replace H := H.1 c1
    refine wp_aload rfl rfl ?_
    refine wp_sipush rfl ?_
    refine wp_putL (j := 4) rfl (congrArg Prod.fst (kf_69 X.1)) rfl rfl rfl ?_
    refine wp_iconst rfl ?_
    refine wp_istore (L2 := [vr 69, vr 49, vi x2, zx3, vi x4, vi x5, vi 0]) rfl (Nat.le_of_ble_eq_true rfl) rfl ?_
    exact H
  · replace H := H.2 c1
    refine wp_aload rfl rfl ?_
    have g2 := H.1
    replace H := H.2
    rcases g2 with c3 | c3
    · replace H := H.1 c3
      refine wp_getM (j := 3) (r := 72) rfl (congrArg Prod.fst (kf_69 X.1)) rfl c3 ?_
      refine wp_iload rfl rfl ?_
      refine wp_sipush rfl ?_
      have g4 := H.1
      replace H := H.2
      refine wp_lastore rfl (kf_72 X.1) g4 ?_
      refine wp_iincR (L2 := [vr 69, vr 49, vi x2, zx3, vi x4, vi x5, vi (x6 + 1)]) rfl rfl (by clear H; unfold R32; omega) rfl ?_
      refine wp_goto (tn := 29) rfl rfl ?_
      exact H
    · replace H := H.2 c3
      refine wp_getM (j := 3) (r := 73) rfl (congrArg Prod.fst (kf_69 X.1)) rfl c3 ?_
      refine wp_iload rfl rfl ?_
      refine wp_sipush rfl ?_
      have g5 := H.1
      replace H := H.2
      refine wp_lastore rfl (kf_73 X.1) g5 ?_
      refine wp_iincR (L2 := [vr 69, vr 49, vi x2, zx3, vi x4, vi x5, vi (x6 + 1)]) rfl rfl (by clear H; unfold R32; omega) rfl ?_
      refine wp_goto (tn := 29) rfl rfl ?_
      exact H
/-- Odds.step(L$ZoneRules;II)V, from 58 -/
theorem S181_69_49_58 {X : Nat × (Int → Int)} {h : HP} {Q : bQ} (x2 : Int) (zx3 : aV) (x4 : Int) (x5 : Int) (x6 : Int) (H : ((x4 ≤ x6 → (((h 69 2) = 72 ∨ (h 69 2) = 73) ∧ (((h 69 2) = 72 → (((h 69 3) = 72 ∨ (h 69 3) = 73) ∧ (((h 69 3) = 72 → Q none (upd2 (upd2 h 69 2 72) 69 3 72)) ∧ ((h 69 3) = 73 → Q none (upd2 (upd2 h 69 2 73) 69 3 72))))) ∧ ((h 69 2) = 73 → (((h 69 3) = 72 ∨ (h 69 3) = 73) ∧ (((h 69 3) = 72 → Q none (upd2 (upd2 h 69 2 72) 69 3 73)) ∧ ((h 69 3) = 73 → Q none (upd2 (upd2 h 69 2 73) 69 3 73)))))))) ∧ (x6 < x4 → (((h 69 2) = 72 ∨ (h 69 2) = 73) ∧ (((h 69 2) = 72 → ((0 ≤ x6 ∧ x6 < 4096) ∧ (((lcp (h 72 x6) 0) = 0 → Wp X 2 181 96 [vr 69, vr 49, vi x2, zx3, vi x4, vi x5, vi x6] [] h Q) ∧ ((lcp (h 72 x6) 0) ≠ 0 → ((R32 (x5 - 1)) ∧ Wp X 1 182 0 [vr 69, vr 49, vi x6, vi x2, vl (h 72 x6), vu, vi (x5 - 1), vu, vu, vu, vu, vu, vu, vu] [] h (fun v h' => Wp X 2 181 96 [vr 69, vr 49, vi x2, zx3, vi x4, vi x5, vi x6] (psh v []) h' Q)))))) ∧ ((h 69 2) = 73 → ((0 ≤ x6 ∧ x6 < 4096) ∧ (((lcp (h 73 x6) 0) = 0 → Wp X 2 181 96 [vr 69, vr 49, vi x2, zx3, vi x4, vi x5, vi x6] [] h Q) ∧ ((lcp (h 73 x6) 0) ≠ 0 → ((R32 (x5 - 1)) ∧ Wp X 1 182 0 [vr 69, vr 49, vi x6, vi x2, vl (h 73 x6), vu, vi (x5 - 1), vu, vu, vu, vu, vu, vu, vu] [] h (fun v h' => Wp X 2 181 96 [vr 69, vr 49, vi x2, zx3, vi x4, vi x5, vi x6] (psh v []) h' Q))))))))))) : Wp X 2 181 58 [vr 69, vr 49, vi x2, zx3, vi x4, vi x5, vi x6] [] h Q := by
  refine wp_iload rfl rfl ?_
  refine wp_iload rfl rfl ?_
  refine wp_icge (tn := 102) rfl rfl (fun c1 => ?_) (fun c1 => ?_)
  · replace H := H.1 c1
    refine wp_aload rfl rfl ?_
    have g2 := H.1
    replace H := H.2
    rcases g2 with c3 | c3
    · replace H := H.1 c3
      refine wp_getM (j := 2) (r := 72) rfl (congrArg Prod.fst (kf_69 X.1)) rfl c3 ?_
      refine wp_astore (L2 := [vr 69, vr 49, vi x2, zx3, vi x4, vi x5, vr 72]) rfl (Nat.le_of_ble_eq_true rfl) rfl ?_
      refine wp_aload rfl rfl ?_
      refine wp_aload rfl rfl ?_
      have g4 := H.1
      replace H := H.2
      rcases g4 with c5 | c5
      · replace H := H.1 c5
        refine wp_getM (j := 3) (r := 72) rfl (congrArg Prod.fst (kf_69 X.1)) rfl c5 ?_
        refine wp_putM (j := 2) rfl (congrArg Prod.fst (kf_69 X.1)) rfl rfl rfl ?_
        refine wp_aload rfl rfl ?_
        refine wp_aload rfl rfl ?_
        refine wp_putM (j := 3) rfl (congrArg Prod.fst (kf_69 X.1)) rfl rfl rfl ?_
        exact wp_vret rfl rfl H
      · replace H := H.2 c5
        refine wp_getM (j := 3) (r := 73) rfl (congrArg Prod.fst (kf_69 X.1)) rfl c5 ?_
        refine wp_putM (j := 2) rfl (congrArg Prod.fst (kf_69 X.1)) rfl rfl rfl ?_
        refine wp_aload rfl rfl ?_
        refine wp_aload rfl rfl ?_
        refine wp_putM (j := 3) rfl (congrArg Prod.fst (kf_69 X.1)) rfl rfl rfl ?_
        exact wp_vret rfl rfl H
    · replace H := H.2 c3
      refine wp_getM (j := 2) (r := 73) rfl (congrArg Prod.fst (kf_69 X.1)) rfl c3 ?_
      refine wp_astore (L2 := [vr 69, vr 49, vi x2, zx3, vi x4, vi x5, vr 73]) rfl (Nat.le_of_ble_eq_true rfl) rfl ?_
      refine wp_aload rfl rfl ?_
      refine wp_aload rfl rfl ?_
      have g6 := H.1
      replace H := H.2
      rcases g6 with c7 | c7
      · replace H := H.1 c7
        refine wp_getM (j := 3) (r := 72) rfl (congrArg Prod.fst (kf_69 X.1)) rfl c7 ?_
        refine wp_putM (j := 2) rfl (congrArg Prod.fst (kf_69 X.1)) rfl rfl rfl ?_
        refine wp_aload rfl rfl ?_
        refine wp_aload rfl rfl ?_
        refine wp_putM (j := 3) rfl (congrArg Prod.fst (kf_69 X.1)) rfl rfl rfl ?_
        exact wp_vret rfl rfl H
      · replace H := H.2 c7
        refine wp_getM (j := 3) (r := 73) rfl (congrArg Prod.fst (kf_69 X.1)) rfl c7 ?_
        refine wp_putM (j := 2) rfl (congrArg Prod.fst (kf_69 X.1)) rfl rfl rfl ?_
        refine wp_aload rfl rfl ?_
        refine wp_aload rfl rfl ?_
        refine wp_putM (j := 3) rfl (congrArg Prod.fst (kf_69 X.1)) rfl rfl rfl ?_
        exact wp_vret rfl rfl H
  · replace H := H.2 c1
    refine wp_aload rfl rfl ?_
    have g8 := H.1
    replace H := H.2
    rcases g8 with c9 | c9
    · replace H := H.1 c9
      refine wp_getM (j := 2) (r := 72) rfl (congrArg Prod.fst (kf_69 X.1)) rfl c9 ?_
      refine wp_iload rfl rfl ?_
      have g10 := H.1
      replace H := H.2
      refine wp_laload rfl (kf_72 X.1) g10 ?_
      refine wp_sipush rfl ?_
      refine wp_lcmp rfl ?_
      refine wp_ifeq (tn := 96) rfl rfl (fun c11 => ?_) (fun c11 => ?_)
      · replace H := H.1 c11
        exact H
      · replace H := H.2 c11
        refine wp_aload rfl rfl ?_
        refine wp_aload rfl rfl ?_
        refine wp_iload rfl rfl ?_
        refine wp_iload rfl rfl ?_
        refine wp_aload rfl rfl ?_
        refine wp_getM (j := 2) (r := 72) rfl (congrArg Prod.fst (kf_69 X.1)) rfl c9 ?_
        refine wp_iload rfl rfl ?_
        refine wp_laload rfl (kf_72 X.1) ⟨g10.1, g10.2⟩ ?_
        refine wp_iload rfl rfl ?_
        refine wp_iconst rfl ?_
        refine wp_isub rfl ?_
        have g12 := H.1
        replace H := H.2
        refine Wp.topI (y := (x5 - 1)) (w32_I g12) ?_
        exact wp_call (k := 182) (ρ2 := 1) (L2 := [vr 69, vr 49, vi x6, vi x2, vl (h 72 x6), vu, vi (x5 - 1), vu, vu, vu, vu, vu, vu, vu]) rfl rfl rfl (Nat.le_of_ble_eq_true rfl) (Nat.le_of_ble_eq_true rfl) (Nat.le_of_ble_eq_true rfl) (rcv_V rfl (congrArg Prod.fst (kf_69 X.1))) rfl H
    · replace H := H.2 c9
      refine wp_getM (j := 2) (r := 73) rfl (congrArg Prod.fst (kf_69 X.1)) rfl c9 ?_
      refine wp_iload rfl rfl ?_
      have g13 := H.1
      replace H := H.2
      refine wp_laload rfl (kf_73 X.1) g13 ?_
      refine wp_sipush rfl ?_
      refine wp_lcmp rfl ?_
      refine wp_ifeq (tn := 96) rfl rfl (fun c14 => ?_) (fun c14 => ?_)
      · replace H := H.1 c14
        exact H
      · replace H := H.2 c14
        refine wp_aload rfl rfl ?_
        refine wp_aload rfl rfl ?_
        refine wp_iload rfl rfl ?_
        refine wp_iload rfl rfl ?_
        refine wp_aload rfl rfl ?_
        refine wp_getM (j := 2) (r := 73) rfl (congrArg Prod.fst (kf_69 X.1)) rfl c9 ?_
        refine wp_iload rfl rfl ?_
        refine wp_laload rfl (kf_73 X.1) ⟨g13.1, g13.2⟩ ?_
        refine wp_iload rfl rfl ?_
        refine wp_iconst rfl ?_
        refine wp_isub rfl ?_
        have g15 := H.1
        replace H := H.2
        refine Wp.topI (y := (x5 - 1)) (w32_I g15) ?_
        exact wp_call (k := 182) (ρ2 := 1) (L2 := [vr 69, vr 49, vi x6, vi x2, vl (h 73 x6), vu, vi (x5 - 1), vu, vu, vu, vu, vu, vu, vu]) rfl rfl rfl (Nat.le_of_ble_eq_true rfl) (Nat.le_of_ble_eq_true rfl) (Nat.le_of_ble_eq_true rfl) (rcv_V rfl (congrArg Prod.fst (kf_69 X.1))) rfl H
/-- Odds.step(L$ZoneRules;II)V, from 96 -/
theorem S181_69_49_96 {X : Nat × (Int → Int)} {h : HP} {Q : bQ} (x2 : Int) (zx3 : aV) (x4 : Int) (x5 : Int) (x6 : Int) (H : ((R32 (x6 + 1)) ∧ Wp X 2 181 58 [vr 69, vr 49, vi x2, zx3, vi x4, vi x5, vi (x6 + 1)] [] h Q)) : Wp X 2 181 96 [vr 69, vr 49, vi x2, zx3, vi x4, vi x5, vi x6] [] h Q := by
  have g1 := H.1
  replace H := H.2
  refine wp_iincR (L2 := [vr 69, vr 49, vi x2, zx3, vi x4, vi x5, vi (x6 + 1)]) rfl rfl g1 rfl ?_
  refine wp_goto (tn := 58) rfl rfl ?_
  exact H
/-- Odds.step(L$ZoneRules;II)V, from 0 -/
theorem S181_69_57_0 {X : Nat × (Int → Int)} {h : HP} {Q : bQ} (x2 : Int) (x3 : Int) (H : ((R32 (3 * x2)) ∧ ((((i32 1 <<< (i32 (3 * x2) &&& 31)).toInt) < 4096 → ((R32 (3 * x3)) ∧ ((((i32 1 <<< (i32 (3 * x3) &&& 31)).toInt) < 4096 → Wp X 2 181 29 [vr 69, vr 57, vi x2, vi x3, vi ((i32 1 <<< (i32 (3 * x2) &&& 31)).toInt), vi ((i32 1 <<< (i32 (3 * x3) &&& 31)).toInt), vi 0] [] h Q) ∧ (4096 ≤ ((i32 1 <<< (i32 (3 * x3) &&& 31)).toInt) → Wp X 2 181 29 [vr 69, vr 57, vi x2, vi x3, vi ((i32 1 <<< (i32 (3 * x2) &&& 31)).toInt), vi 4096, vi 0] [] h Q)))) ∧ (4096 ≤ ((i32 1 <<< (i32 (3 * x2) &&& 31)).toInt) → ((R32 (3 * x3)) ∧ ((((i32 1 <<< (i32 (3 * x3) &&& 31)).toInt) < 4096 → Wp X 2 181 29 [vr 69, vr 57, vi x2, vi x3, vi 4096, vi ((i32 1 <<< (i32 (3 * x3) &&& 31)).toInt), vi 0] [] h Q) ∧ (4096 ≤ ((i32 1 <<< (i32 (3 * x3) &&& 31)).toInt) → Wp X 2 181 29 [vr 69, vr 57, vi x2, vi x3, vi 4096, vi 4096, vi 0] [] h Q))))))) : Wp X 2 181 0 [vr 69, vr 57, vi x2, vi x3, vu, vu, vu] [] h Q := by
  refine wp_iconst rfl ?_
  refine wp_iconst rfl ?_
  refine wp_iconst rfl ?_
  refine wp_iload rfl rfl ?_
  refine wp_imul rfl ?_
  have g1 := H.1
  replace H := H.2
  refine Wp.topI (y := (3 * x2)) (w32_I g1) ?_
  refine wp_ishl rfl ?_
  refine wp_call (k := 253) (ρ2 := 0) (L2 := [vi 4096, vi ((i32 1 <<< (i32 (3 * x2) &&& 31)).toInt)]) rfl rfl rfl (Nat.le_of_ble_eq_true rfl) (Nat.le_of_ble_eq_true rfl) (Nat.le_of_ble_eq_true rfl) (rcv_S rfl) rfl ?_
  refine wp_iload rfl rfl ?_
  refine wp_iload rfl rfl ?_
  refine wp_icgt (tn := 9) rfl rfl (fun c2 => ?_) (fun c2 => ?_)
  · replace H := H.1 c2
    refine wp_iload rfl rfl ?_
    refine wp_iret rfl rfl ?_
    show Wp X _ 181 11 [vr 69, vr 57, vi x2, vi x3, vu, vu, vu] [vi ((i32 1 <<< (i32 (3 * x2) &&& 31)).toInt)] _ _
    refine wp_istore (L2 := [vr 69, vr 57, vi x2, vi x3, vi ((i32 1 <<< (i32 (3 * x2) &&& 31)).toInt), vu, vu]) rfl (Nat.le_of_ble_eq_true rfl) rfl ?_
    refine wp_iconst rfl ?_
    refine wp_iconst rfl ?_
    refine wp_iconst rfl ?_
    refine wp_iload rfl rfl ?_
    refine wp_imul rfl ?_
    have g3 := H.1
    replace H := H.2
    refine Wp.topI (y := (3 * x3)) (w32_I g3) ?_
    refine wp_ishl rfl ?_
    refine wp_call (k := 253) (ρ2 := 0) (L2 := [vi 4096, vi ((i32 1 <<< (i32 (3 * x3) &&& 31)).toInt)]) rfl rfl rfl (Nat.le_of_ble_eq_true rfl) (Nat.le_of_ble_eq_true rfl) (Nat.le_of_ble_eq_true rfl) (rcv_S rfl) rfl ?_
    refine wp_iload rfl rfl ?_
    refine wp_iload rfl rfl ?_
    refine wp_icgt (tn := 9) rfl rfl (fun c4 => ?_) (fun c4 => ?_)
    · replace H := H.1 c4
      refine wp_iload rfl rfl ?_
      refine wp_iret rfl rfl ?_
      show Wp X _ 181 24 [vr 69, vr 57, vi x2, vi x3, vi ((i32 1 <<< (i32 (3 * x2) &&& 31)).toInt), vu, vu] [vi ((i32 1 <<< (i32 (3 * x3) &&& 31)).toInt)] _ _
      refine wp_istore (L2 := [vr 69, vr 57, vi x2, vi x3, vi ((i32 1 <<< (i32 (3 * x2) &&& 31)).toInt), vi ((i32 1 <<< (i32 (3 * x3) &&& 31)).toInt), vu]) rfl (Nat.le_of_ble_eq_true rfl) rfl ?_
      refine wp_iconst rfl ?_
      refine wp_istore (L2 := [vr 69, vr 57, vi x2, vi x3, vi ((i32 1 <<< (i32 (3 * x2) &&& 31)).toInt), vi ((i32 1 <<< (i32 (3 * x3) &&& 31)).toInt), vi 0]) rfl (Nat.le_of_ble_eq_true rfl) rfl ?_
      exact H
    · replace H := H.2 c4
      refine wp_iload rfl rfl ?_
      refine wp_goto (tn := 10) rfl rfl ?_
      refine wp_iret rfl rfl ?_
      show Wp X _ 181 24 [vr 69, vr 57, vi x2, vi x3, vi ((i32 1 <<< (i32 (3 * x2) &&& 31)).toInt), vu, vu] [vi 4096] _ _
      refine wp_istore (L2 := [vr 69, vr 57, vi x2, vi x3, vi ((i32 1 <<< (i32 (3 * x2) &&& 31)).toInt), vi 4096, vu]) rfl (Nat.le_of_ble_eq_true rfl) rfl ?_
      refine wp_iconst rfl ?_
      refine wp_istore (L2 := [vr 69, vr 57, vi x2, vi x3, vi ((i32 1 <<< (i32 (3 * x2) &&& 31)).toInt), vi 4096, vi 0]) rfl (Nat.le_of_ble_eq_true rfl) rfl ?_
      exact H
  · replace H := H.2 c2
    refine wp_iload rfl rfl ?_
    refine wp_goto (tn := 10) rfl rfl ?_
    refine wp_iret rfl rfl ?_
    show Wp X _ 181 11 [vr 69, vr 57, vi x2, vi x3, vu, vu, vu] [vi 4096] _ _
    refine wp_istore (L2 := [vr 69, vr 57, vi x2, vi x3, vi 4096, vu, vu]) rfl (Nat.le_of_ble_eq_true rfl) rfl ?_
    refine wp_iconst rfl ?_
    refine wp_iconst rfl ?_
    refine wp_iconst rfl ?_
    refine wp_iload rfl rfl ?_
    refine wp_imul rfl ?_
    have g5 := H.1
    replace H := H.2
    refine Wp.topI (y := (3 * x3)) (w32_I g5) ?_
    refine wp_ishl rfl ?_
    refine wp_call (k := 253) (ρ2 := 0) (L2 := [vi 4096, vi ((i32 1 <<< (i32 (3 * x3) &&& 31)).toInt)]) rfl rfl rfl (Nat.le_of_ble_eq_true rfl) (Nat.le_of_ble_eq_true rfl) (Nat.le_of_ble_eq_true rfl) (rcv_S rfl) rfl ?_
    refine wp_iload rfl rfl ?_
    refine wp_iload rfl rfl ?_
    refine wp_icgt (tn := 9) rfl rfl (fun c6 => ?_) (fun c6 => ?_)
    · replace H := H.1 c6
      refine wp_iload rfl rfl ?_
      refine wp_iret rfl rfl ?_
      show Wp X _ 181 24 [vr 69, vr 57, vi x2, vi x3, vi 4096, vu, vu] [vi ((i32 1 <<< (i32 (3 * x3) &&& 31)).toInt)] _ _
      refine wp_istore (L2 := [vr 69, vr 57, vi x2, vi x3, vi 4096, vi ((i32 1 <<< (i32 (3 * x3) &&& 31)).toInt), vu]) rfl (Nat.le_of_ble_eq_true rfl) rfl ?_
      refine wp_iconst rfl ?_
      refine wp_istore (L2 := [vr 69, vr 57, vi x2, vi x3, vi 4096, vi ((i32 1 <<< (i32 (3 * x3) &&& 31)).toInt), vi 0]) rfl (Nat.le_of_ble_eq_true rfl) rfl ?_
      exact H
    · replace H := H.2 c6
      refine wp_iload rfl rfl ?_
      refine wp_goto (tn := 10) rfl rfl ?_
      refine wp_iret rfl rfl ?_
      show Wp X _ 181 24 [vr 69, vr 57, vi x2, vi x3, vi 4096, vu, vu] [vi 4096] _ _
      refine wp_istore (L2 := [vr 69, vr 57, vi x2, vi x3, vi 4096, vi 4096, vu]) rfl (Nat.le_of_ble_eq_true rfl) rfl ?_
      refine wp_iconst rfl ?_
      refine wp_istore (L2 := [vr 69, vr 57, vi x2, vi x3, vi 4096, vi 4096, vi 0]) rfl (Nat.le_of_ble_eq_true rfl) rfl ?_
      exact H
/-- Odds.step(L$ZoneRules;II)V, from 29 -/
theorem S181_69_57_29 {X : Nat × (Int → Int)} {h : HP} {Q : bQ} (x2 : Int) (zx3 : aV) (x4 : Int) (x5 : Int) (x6 : Int) (H : ((x5 ≤ x6 → Wp X 2 181 58 [vr 69, vr 57, vi x2, zx3, vi x4, vi x5, vi 0] [] (upd2 h 69 4 0) Q) ∧ (x6 < x5 → (((h 69 3) = 72 ∨ (h 69 3) = 73) ∧ (((h 69 3) = 72 → ((0 ≤ x6 ∧ x6 < 4096) ∧ Wp X 2 181 29 [vr 69, vr 57, vi x2, zx3, vi x4, vi x5, vi (x6 + 1)] [] (upd2 h 72 x6 0) Q)) ∧ ((h 69 3) = 73 → ((0 ≤ x6 ∧ x6 < 4096) ∧ Wp X 2 181 29 [vr 69, vr 57, vi x2, zx3, vi x4, vi x5, vi (x6 + 1)] [] (upd2 h 73 x6 0) Q))))))) : Wp X 2 181 29 [vr 69, vr 57, vi x2, zx3, vi x4, vi x5, vi x6] [] h Q := by
  refine wp_iload rfl rfl ?_
  refine wp_iload rfl rfl ?_
  refine wp_icge (tn := 50) rfl rfl (fun c1 => ?_) (fun c1 => ?_)
  · replace H := H.1 c1
    refine wp_aload rfl rfl ?_
    refine wp_sipush rfl ?_
    refine wp_putL (j := 4) rfl (congrArg Prod.fst (kf_69 X.1)) rfl rfl rfl ?_
    refine wp_iconst rfl ?_
    refine wp_istore (L2 := [vr 69, vr 57, vi x2, zx3, vi x4, vi x5, vi 0]) rfl (Nat.le_of_ble_eq_true rfl) rfl ?_
    exact H
  · replace H := H.2 c1
    refine wp_aload rfl rfl ?_
    have g2 := H.1
    replace H := H.2
    rcases g2 with c3 | c3
    · replace H := H.1 c3
      refine wp_getM (j := 3) (r := 72) rfl (congrArg Prod.fst (kf_69 X.1)) rfl c3 ?_
      refine wp_iload rfl rfl ?_
      refine wp_sipush rfl ?_
      have g4 := H.1
      replace H := H.2
      refine wp_lastore rfl (kf_72 X.1) g4 ?_
      refine wp_iincR (L2 := [vr 69, vr 57, vi x2, zx3, vi x4, vi x5, vi (x6 + 1)]) rfl rfl (by clear H; unfold R32; omega) rfl ?_
      refine wp_goto (tn := 29) rfl rfl ?_
      exact H
    · replace H := H.2 c3
      refine wp_getM (j := 3) (r := 73) rfl (congrArg Prod.fst (kf_69 X.1)) rfl c3 ?_
      refine wp_iload rfl rfl ?_
      refine wp_sipush rfl ?_
      have g5 := H.1
      replace H := H.2
      refine wp_lastore rfl (kf_73 X.1) g5 ?_
      refine wp_iincR (L2 := [vr 69, vr 57, vi x2, zx3, vi x4, vi x5, vi (x6 + 1)]) rfl rfl (by clear H; unfold R32; omega) rfl ?_
      refine wp_goto (tn := 29) rfl rfl ?_
      exact H
/-- Odds.step(L$ZoneRules;II)V, from 58 -/
theorem S181_69_57_58 {X : Nat × (Int → Int)} {h : HP} {Q : bQ} (x2 : Int) (zx3 : aV) (x4 : Int) (x5 : Int) (x6 : Int) (H : ((x4 ≤ x6 → (((h 69 2) = 72 ∨ (h 69 2) = 73) ∧ (((h 69 2) = 72 → (((h 69 3) = 72 ∨ (h 69 3) = 73) ∧ (((h 69 3) = 72 → Q none (upd2 (upd2 h 69 2 72) 69 3 72)) ∧ ((h 69 3) = 73 → Q none (upd2 (upd2 h 69 2 73) 69 3 72))))) ∧ ((h 69 2) = 73 → (((h 69 3) = 72 ∨ (h 69 3) = 73) ∧ (((h 69 3) = 72 → Q none (upd2 (upd2 h 69 2 72) 69 3 73)) ∧ ((h 69 3) = 73 → Q none (upd2 (upd2 h 69 2 73) 69 3 73)))))))) ∧ (x6 < x4 → (((h 69 2) = 72 ∨ (h 69 2) = 73) ∧ (((h 69 2) = 72 → ((0 ≤ x6 ∧ x6 < 4096) ∧ (((lcp (h 72 x6) 0) = 0 → Wp X 2 181 96 [vr 69, vr 57, vi x2, zx3, vi x4, vi x5, vi x6] [] h Q) ∧ ((lcp (h 72 x6) 0) ≠ 0 → ((R32 (x5 - 1)) ∧ Wp X 1 182 0 [vr 69, vr 57, vi x6, vi x2, vl (h 72 x6), vu, vi (x5 - 1), vu, vu, vu, vu, vu, vu, vu] [] h (fun v h' => Wp X 2 181 96 [vr 69, vr 57, vi x2, zx3, vi x4, vi x5, vi x6] (psh v []) h' Q)))))) ∧ ((h 69 2) = 73 → ((0 ≤ x6 ∧ x6 < 4096) ∧ (((lcp (h 73 x6) 0) = 0 → Wp X 2 181 96 [vr 69, vr 57, vi x2, zx3, vi x4, vi x5, vi x6] [] h Q) ∧ ((lcp (h 73 x6) 0) ≠ 0 → ((R32 (x5 - 1)) ∧ Wp X 1 182 0 [vr 69, vr 57, vi x6, vi x2, vl (h 73 x6), vu, vi (x5 - 1), vu, vu, vu, vu, vu, vu, vu] [] h (fun v h' => Wp X 2 181 96 [vr 69, vr 57, vi x2, zx3, vi x4, vi x5, vi x6] (psh v []) h' Q))))))))))) : Wp X 2 181 58 [vr 69, vr 57, vi x2, zx3, vi x4, vi x5, vi x6] [] h Q := by
  refine wp_iload rfl rfl ?_
  refine wp_iload rfl rfl ?_
  refine wp_icge (tn := 102) rfl rfl (fun c1 => ?_) (fun c1 => ?_)
  · replace H := H.1 c1
    refine wp_aload rfl rfl ?_
    have g2 := H.1
    replace H := H.2
    rcases g2 with c3 | c3
    · replace H := H.1 c3
      refine wp_getM (j := 2) (r := 72) rfl (congrArg Prod.fst (kf_69 X.1)) rfl c3 ?_
      refine wp_astore (L2 := [vr 69, vr 57, vi x2, zx3, vi x4, vi x5, vr 72]) rfl (Nat.le_of_ble_eq_true rfl) rfl ?_
      refine wp_aload rfl rfl ?_
      refine wp_aload rfl rfl ?_
      have g4 := H.1
      replace H := H.2
      rcases g4 with c5 | c5
      · replace H := H.1 c5
        refine wp_getM (j := 3) (r := 72) rfl (congrArg Prod.fst (kf_69 X.1)) rfl c5 ?_
        refine wp_putM (j := 2) rfl (congrArg Prod.fst (kf_69 X.1)) rfl rfl rfl ?_
        refine wp_aload rfl rfl ?_
        refine wp_aload rfl rfl ?_
        refine wp_putM (j := 3) rfl (congrArg Prod.fst (kf_69 X.1)) rfl rfl rfl ?_
        exact wp_vret rfl rfl H
      · replace H := H.2 c5
        refine wp_getM (j := 3) (r := 73) rfl (congrArg Prod.fst (kf_69 X.1)) rfl c5 ?_
        refine wp_putM (j := 2) rfl (congrArg Prod.fst (kf_69 X.1)) rfl rfl rfl ?_
        refine wp_aload rfl rfl ?_
        refine wp_aload rfl rfl ?_
        refine wp_putM (j := 3) rfl (congrArg Prod.fst (kf_69 X.1)) rfl rfl rfl ?_
        exact wp_vret rfl rfl H
    · replace H := H.2 c3
      refine wp_getM (j := 2) (r := 73) rfl (congrArg Prod.fst (kf_69 X.1)) rfl c3 ?_
      refine wp_astore (L2 := [vr 69, vr 57, vi x2, zx3, vi x4, vi x5, vr 73]) rfl (Nat.le_of_ble_eq_true rfl) rfl ?_
      refine wp_aload rfl rfl ?_
      refine wp_aload rfl rfl ?_
      have g6 := H.1
      replace H := H.2
      rcases g6 with c7 | c7
      · replace H := H.1 c7
        refine wp_getM (j := 3) (r := 72) rfl (congrArg Prod.fst (kf_69 X.1)) rfl c7 ?_
        refine wp_putM (j := 2) rfl (congrArg Prod.fst (kf_69 X.1)) rfl rfl rfl ?_
        refine wp_aload rfl rfl ?_
        refine wp_aload rfl rfl ?_
        refine wp_putM (j := 3) rfl (congrArg Prod.fst (kf_69 X.1)) rfl rfl rfl ?_
        exact wp_vret rfl rfl H
      · replace H := H.2 c7
        refine wp_getM (j := 3) (r := 73) rfl (congrArg Prod.fst (kf_69 X.1)) rfl c7 ?_
        refine wp_putM (j := 2) rfl (congrArg Prod.fst (kf_69 X.1)) rfl rfl rfl ?_
        refine wp_aload rfl rfl ?_
        refine wp_aload rfl rfl ?_
        refine wp_putM (j := 3) rfl (congrArg Prod.fst (kf_69 X.1)) rfl rfl rfl ?_
        exact wp_vret rfl rfl H
  · replace H := H.2 c1
    refine wp_aload rfl rfl ?_
    have g8 := H.1
    replace H := H.2
    rcases g8 with c9 | c9
    · replace H := H.1 c9
      refine wp_getM (j := 2) (r := 72) rfl (congrArg Prod.fst (kf_69 X.1)) rfl c9 ?_
      refine wp_iload rfl rfl ?_
      have g10 := H.1
      replace H := H.2
      refine wp_laload rfl (kf_72 X.1) g10 ?_
      refine wp_sipush rfl ?_
      refine wp_lcmp rfl ?_
      refine wp_ifeq (tn := 96) rfl rfl (fun c11 => ?_) (fun c11 => ?_)
      · replace H := H.1 c11
        exact H
      · replace H := H.2 c11
        refine wp_aload rfl rfl ?_
        refine wp_aload rfl rfl ?_
        refine wp_iload rfl rfl ?_
        refine wp_iload rfl rfl ?_
        refine wp_aload rfl rfl ?_
        refine wp_getM (j := 2) (r := 72) rfl (congrArg Prod.fst (kf_69 X.1)) rfl c9 ?_
        refine wp_iload rfl rfl ?_
        refine wp_laload rfl (kf_72 X.1) ⟨g10.1, g10.2⟩ ?_
        refine wp_iload rfl rfl ?_
        refine wp_iconst rfl ?_
        refine wp_isub rfl ?_
        have g12 := H.1
        replace H := H.2
        refine Wp.topI (y := (x5 - 1)) (w32_I g12) ?_
        exact wp_call (k := 182) (ρ2 := 1) (L2 := [vr 69, vr 57, vi x6, vi x2, vl (h 72 x6), vu, vi (x5 - 1), vu, vu, vu, vu, vu, vu, vu]) rfl rfl rfl (Nat.le_of_ble_eq_true rfl) (Nat.le_of_ble_eq_true rfl) (Nat.le_of_ble_eq_true rfl) (rcv_V rfl (congrArg Prod.fst (kf_69 X.1))) rfl H
    · replace H := H.2 c9
      refine wp_getM (j := 2) (r := 73) rfl (congrArg Prod.fst (kf_69 X.1)) rfl c9 ?_
      refine wp_iload rfl rfl ?_
      have g13 := H.1
      replace H := H.2
      refine wp_laload rfl (kf_73 X.1) g13 ?_
      refine wp_sipush rfl ?_
      refine wp_lcmp rfl ?_
      refine wp_ifeq (tn := 96) rfl rfl (fun c14 => ?_) (fun c14 => ?_)
      · replace H := H.1 c14
        exact H
      · replace H := H.2 c14
        refine wp_aload rfl rfl ?_
        refine wp_aload rfl rfl ?_
        refine wp_iload rfl rfl ?_
        refine wp_iload rfl rfl ?_
        refine wp_aload rfl rfl ?_
        refine wp_getM (j := 2) (r := 73) rfl (congrArg Prod.fst (kf_69 X.1)) rfl c9 ?_
        refine wp_iload rfl rfl ?_
        refine wp_laload rfl (kf_73 X.1) ⟨g13.1, g13.2⟩ ?_
        refine wp_iload rfl rfl ?_
        refine wp_iconst rfl ?_
        refine wp_isub rfl ?_
        have g15 := H.1
        replace H := H.2
        refine Wp.topI (y := (x5 - 1)) (w32_I g15) ?_
        exact wp_call (k := 182) (ρ2 := 1) (L2 := [vr 69, vr 57, vi x6, vi x2, vl (h 73 x6), vu, vi (x5 - 1), vu, vu, vu, vu, vu, vu, vu]) rfl rfl rfl (Nat.le_of_ble_eq_true rfl) (Nat.le_of_ble_eq_true rfl) (Nat.le_of_ble_eq_true rfl) (rcv_V rfl (congrArg Prod.fst (kf_69 X.1))) rfl H
/-- Odds.step(L$ZoneRules;II)V, from 96 -/
theorem S181_69_57_96 {X : Nat × (Int → Int)} {h : HP} {Q : bQ} (x2 : Int) (zx3 : aV) (x4 : Int) (x5 : Int) (x6 : Int) (H : ((R32 (x6 + 1)) ∧ Wp X 2 181 58 [vr 69, vr 57, vi x2, zx3, vi x4, vi x5, vi (x6 + 1)] [] h Q)) : Wp X 2 181 96 [vr 69, vr 57, vi x2, zx3, vi x4, vi x5, vi x6] [] h Q := by
  have g1 := H.1
  replace H := H.2
  refine wp_iincR (L2 := [vr 69, vr 57, vi x2, zx3, vi x4, vi x5, vi (x6 + 1)]) rfl rfl g1 rfl ?_
  refine wp_goto (tn := 58) rfl rfl ?_
  exact H
/-- Odds.goOn(L$ZoneRules;IIJI)V, from 0 -/
theorem S182_69_49_0 {X : Nat × (Int → Int)} {h : HP} {Q : bQ} (x2 : Int) (x3 : Int) (x4 : Int) (x6 : Int) (H : Wp X 1 182 15 [vr 69, vr 49, vi x2, vi x3, vl x4, vu, vi x6, vl (h 49 3), vu, vl (h 49 3), vu, vi 1, vu, vu] [] h Q) : Wp X 1 182 0 [vr 69, vr 49, vi x2, vi x3, vl x4, vu, vi x6, vu, vu, vu, vu, vu, vu, vu] [] h Q := by
  refine wp_aload rfl rfl ?_
  refine wp_call (k := 238) (ρ2 := 0) (L2 := [vr 49]) rfl rfl rfl (Nat.le_of_ble_eq_true rfl) (Nat.le_of_ble_eq_true rfl) (Nat.le_of_ble_eq_true rfl) (rcv_V rfl (congrArg Prod.fst (kf_49 X.1))) rfl ?_
  refine wp_aload rfl rfl ?_
  refine wp_getL (j := 3) rfl (congrArg Prod.fst (kf_49 X.1)) rfl ?_
  refine wp_lret rfl rfl ?_
  show Wp X _ 182 4 [vr 69, vr 49, vi x2, vi x3, vl x4, vu, vi x6, vu, vu, vu, vu, vu, vu, vu] [vl (h 49 3)] _ _
  refine wp_lstore (L2 := [vr 69, vr 49, vi x2, vi x3, vl x4, vu, vi x6, vl (h 49 3), vu, vu, vu, vu, vu, vu]) rfl (Nat.le_of_ble_eq_true rfl) rfl ?_
  refine wp_aload rfl rfl ?_
  refine wp_call (k := 238) (ρ2 := 0) (L2 := [vr 49]) rfl rfl rfl (Nat.le_of_ble_eq_true rfl) (Nat.le_of_ble_eq_true rfl) (Nat.le_of_ble_eq_true rfl) (rcv_V rfl (congrArg Prod.fst (kf_49 X.1))) rfl ?_
  refine wp_aload rfl rfl ?_
  refine wp_getL (j := 3) rfl (congrArg Prod.fst (kf_49 X.1)) rfl ?_
  refine wp_lret rfl rfl ?_
  show Wp X _ 182 10 [vr 69, vr 49, vi x2, vi x3, vl x4, vu, vi x6, vl (h 49 3), vu, vu, vu, vu, vu, vu] [vl (h 49 3)] _ _
  refine wp_lstore (L2 := [vr 69, vr 49, vi x2, vi x3, vl x4, vu, vi x6, vl (h 49 3), vu, vl (h 49 3), vu, vu, vu, vu]) rfl (Nat.le_of_ble_eq_true rfl) rfl ?_
  refine wp_iconst rfl ?_
  refine wp_istore (L2 := [vr 69, vr 49, vi x2, vi x3, vl x4, vu, vi x6, vl (h 49 3), vu, vl (h 49 3), vu, vi 1, vu, vu]) rfl (Nat.le_of_ble_eq_true rfl) rfl ?_
  exact H
/-- Odds.goOn(L$ZoneRules;IIJI)V, from 15 -/
theorem S182_69_49_15 {X : Nat × (Int → Int)} {h : HP} {Q : bQ} (x2 : Int) (x3 : Int) (x4 : Int) (x6 : Int) (x7 : Int) (x9 : Int) (x11 : Int) (zx12 : aV) (H : ((x3 < x11 → Wp X 1 182 69 [vr 69, vr 49, vi x2, vi x3, vl x4, vu, vi x6, vl x7, vu, vl x9, vu, vi 0, zx12, vu] [] h Q) ∧ (x11 ≤ x3 → ((R32 (x11 - 1)) ∧ ((R32 (3 * (x11 - 1))) ∧ ((((i32 ((i32 x2 >>> (i32 (3 * (x11 - 1)) &&& 31)).toInt) &&& i32 7).toInt) < 0 → ((R32 (x11 + 1)) ∧ Wp X 1 182 15 [vr 69, vr 49, vi x2, vi x3, vl x4, vu, vi x6, vl (w64 (x7 + 0)), vu, vl (w64 (x9 + 0)), vu, vi (x11 + 1), vi ((i32 ((i32 x2 >>> (i32 (3 * (x11 - 1)) &&& 31)).toInt) &&& i32 7).toInt), vu] [] h Q)) ∧ (0 ≤ ((i32 ((i32 x2 >>> (i32 (3 * (x11 - 1)) &&& 31)).toInt) &&& i32 7).toInt) → ((9 ≤ ((i32 ((i32 x2 >>> (i32 (3 * (x11 - 1)) &&& 31)).toInt) &&& i32 7).toInt) → ((R32 (x11 + 1)) ∧ Wp X 1 182 15 [vr 69, vr 49, vi x2, vi x3, vl x4, vu, vi x6, vl (w64 (x7 + 0)), vu, vl (w64 (x9 + 0)), vu, vi (x11 + 1), vi ((i32 ((i32 x2 >>> (i32 (3 * (x11 - 1)) &&& 31)).toInt) &&& i32 7).toInt), vu] [] h Q)) ∧ (((i32 ((i32 x2 >>> (i32 (3 * (x11 - 1)) &&& 31)).toInt) &&& i32 7).toInt) < 9 → ((x11 < 0 → ((R32 (x11 + 1)) ∧ Wp X 1 182 15 [vr 69, vr 49, vi x2, vi x3, vl x4, vu, vi x6, vl (w64 (x7 + 0)), vu, vl (w64 (x9 + 0)), vu, vi (x11 + 1), vi ((i32 ((i32 x2 >>> (i32 (3 * (x11 - 1)) &&& 31)).toInt) &&& i32 7).toInt), vu] [] h Q)) ∧ (0 ≤ x11 → ((x11 < 5 → Wp X 1 182 15 [vr 69, vr 49, vi x2, vi x3, vl x4, vu, vi x6, vl (w64 (x7 + ((i64 (h 50 ((i32 ((i32 x2 >>> (i32 (3 * (x11 - 1)) &&& 31)).toInt) &&& i32 7).toInt)) &&& i64 (h 52 x11)).toInt))), vu, vl (w64 (x9 + ((i64 (h 51 ((i32 ((i32 x2 >>> (i32 (3 * (x11 - 1)) &&& 31)).toInt) &&& i32 7).toInt)) &&& i64 (h 52 x11)).toInt))), vu, vi (x11 + 1), vi ((i32 ((i32 x2 >>> (i32 (3 * (x11 - 1)) &&& 31)).toInt) &&& i32 7).toInt), vu] [] h Q) ∧ (5 ≤ x11 → ((R32 (x11 + 1)) ∧ Wp X 1 182 15 [vr 69, vr 49, vi x2, vi x3, vl x4, vu, vi x6, vl (w64 (x7 + 0)), vu, vl (w64 (x9 + 0)), vu, vi (x11 + 1), vi ((i32 ((i32 x2 >>> (i32 (3 * (x11 - 1)) &&& 31)).toInt) &&& i32 7).toInt), vu] [] h Q)))))))))))))) : Wp X 1 182 15 [vr 69, vr 49, vi x2, vi x3, vl x4, vu, vi x6, vl x7, vu, vl x9, vu, vi x11, zx12, vu] [] h Q := by
  refine wp_iload rfl rfl ?_
  refine wp_iload rfl rfl ?_
  refine wp_icgt (tn := 66) rfl rfl (fun c1 => ?_) (fun c1 => ?_)
  · replace H := H.1 c1
    refine wp_iconst rfl ?_
    refine wp_istore (L2 := [vr 69, vr 49, vi x2, vi x3, vl x4, vu, vi x6, vl x7, vu, vl x9, vu, vi 0, zx12, vu]) rfl (Nat.le_of_ble_eq_true rfl) rfl ?_
    exact H
  · replace H := H.2 c1
    refine wp_iload rfl rfl ?_
    refine wp_iconst rfl ?_
    refine wp_iload rfl rfl ?_
    refine wp_iconst rfl ?_
    refine wp_isub rfl ?_
    have g2 := H.1
    replace H := H.2
    refine Wp.topI (y := (x11 - 1)) (w32_I g2) ?_
    refine wp_imul rfl ?_
    have g3 := H.1
    replace H := H.2
    refine Wp.topI (y := (3 * (x11 - 1))) (w32_I g3) ?_
    refine wp_ishr rfl ?_
    refine wp_iconst rfl ?_
    refine wp_iand rfl ?_
    refine wp_istore (L2 := [vr 69, vr 49, vi x2, vi x3, vl x4, vu, vi x6, vl x7, vu, vl x9, vu, vi x11, vi ((i32 ((i32 x2 >>> (i32 (3 * (x11 - 1)) &&& 31)).toInt) &&& i32 7).toInt), vu]) rfl (Nat.le_of_ble_eq_true rfl) rfl ?_
    refine wp_lload rfl rfl ?_
    refine wp_aload rfl rfl ?_
    refine wp_iload rfl rfl ?_
    refine wp_iload rfl rfl ?_
    refine wp_call (k := 239) (ρ2 := 0) (L2 := [vr 49, vi ((i32 ((i32 x2 >>> (i32 (3 * (x11 - 1)) &&& 31)).toInt) &&& i32 7).toInt), vi x11]) rfl rfl rfl (Nat.le_of_ble_eq_true rfl) (Nat.le_of_ble_eq_true rfl) (Nat.le_of_ble_eq_true rfl) (rcv_V rfl (congrArg Prod.fst (kf_49 X.1))) rfl ?_
    refine wp_iload rfl rfl ?_
    refine wp_iflt (tn := 19) rfl rfl (fun c4 => ?_) (fun c4 => ?_)
    · replace H := H.1 c4
      refine wp_sipush rfl ?_
      refine wp_lret rfl rfl ?_
      show Wp X _ 182 44 [vr 69, vr 49, vi x2, vi x3, vl x4, vu, vi x6, vl x7, vu, vl x9, vu, vi x11, vi ((i32 ((i32 x2 >>> (i32 (3 * (x11 - 1)) &&& 31)).toInt) &&& i32 7).toInt), vu] [vl 0, vl x7] _ _
      refine wp_ladd rfl ?_
      refine wp_lstore (L2 := [vr 69, vr 49, vi x2, vi x3, vl x4, vu, vi x6, vl (w64 (x7 + 0)), vu, vl x9, vu, vi x11, vi ((i32 ((i32 x2 >>> (i32 (3 * (x11 - 1)) &&& 31)).toInt) &&& i32 7).toInt), vu]) rfl (Nat.le_of_ble_eq_true rfl) rfl ?_
      refine wp_lload rfl rfl ?_
      refine wp_aload rfl rfl ?_
      refine wp_iload rfl rfl ?_
      refine wp_iload rfl rfl ?_
      refine wp_call (k := 240) (ρ2 := 0) (L2 := [vr 49, vi ((i32 ((i32 x2 >>> (i32 (3 * (x11 - 1)) &&& 31)).toInt) &&& i32 7).toInt), vi x11]) rfl rfl rfl (Nat.le_of_ble_eq_true rfl) (Nat.le_of_ble_eq_true rfl) (Nat.le_of_ble_eq_true rfl) (rcv_V rfl (congrArg Prod.fst (kf_49 X.1))) rfl ?_
      refine wp_iload rfl rfl ?_
      refine wp_ifltT (tn := 19) rfl rfl c4 ?_
      refine wp_sipush rfl ?_
      refine wp_lret rfl rfl ?_
      show Wp X _ 182 57 [vr 69, vr 49, vi x2, vi x3, vl x4, vu, vi x6, vl (w64 (x7 + 0)), vu, vl x9, vu, vi x11, vi ((i32 ((i32 x2 >>> (i32 (3 * (x11 - 1)) &&& 31)).toInt) &&& i32 7).toInt), vu] [vl 0, vl x9] _ _
      refine wp_ladd rfl ?_
      refine wp_lstore (L2 := [vr 69, vr 49, vi x2, vi x3, vl x4, vu, vi x6, vl (w64 (x7 + 0)), vu, vl (w64 (x9 + 0)), vu, vi x11, vi ((i32 ((i32 x2 >>> (i32 (3 * (x11 - 1)) &&& 31)).toInt) &&& i32 7).toInt), vu]) rfl (Nat.le_of_ble_eq_true rfl) rfl ?_
      have g5 := H.1
      replace H := H.2
      refine wp_iincR (L2 := [vr 69, vr 49, vi x2, vi x3, vl x4, vu, vi x6, vl (w64 (x7 + 0)), vu, vl (w64 (x9 + 0)), vu, vi (x11 + 1), vi ((i32 ((i32 x2 >>> (i32 (3 * (x11 - 1)) &&& 31)).toInt) &&& i32 7).toInt), vu]) rfl rfl g5 rfl ?_
      refine wp_goto (tn := 15) rfl rfl ?_
      exact H
    · replace H := H.2 c4
      refine wp_iload rfl rfl ?_
      refine wp_iconst rfl ?_
      refine wp_icge (tn := 19) rfl rfl (fun c6 => ?_) (fun c6 => ?_)
      · replace H := H.1 c6
        refine wp_sipush rfl ?_
        refine wp_lret rfl rfl ?_
        show Wp X _ 182 44 [vr 69, vr 49, vi x2, vi x3, vl x4, vu, vi x6, vl x7, vu, vl x9, vu, vi x11, vi ((i32 ((i32 x2 >>> (i32 (3 * (x11 - 1)) &&& 31)).toInt) &&& i32 7).toInt), vu] [vl 0, vl x7] _ _
        refine wp_ladd rfl ?_
        refine wp_lstore (L2 := [vr 69, vr 49, vi x2, vi x3, vl x4, vu, vi x6, vl (w64 (x7 + 0)), vu, vl x9, vu, vi x11, vi ((i32 ((i32 x2 >>> (i32 (3 * (x11 - 1)) &&& 31)).toInt) &&& i32 7).toInt), vu]) rfl (Nat.le_of_ble_eq_true rfl) rfl ?_
        refine wp_lload rfl rfl ?_
        refine wp_aload rfl rfl ?_
        refine wp_iload rfl rfl ?_
        refine wp_iload rfl rfl ?_
        refine wp_call (k := 240) (ρ2 := 0) (L2 := [vr 49, vi ((i32 ((i32 x2 >>> (i32 (3 * (x11 - 1)) &&& 31)).toInt) &&& i32 7).toInt), vi x11]) rfl rfl rfl (Nat.le_of_ble_eq_true rfl) (Nat.le_of_ble_eq_true rfl) (Nat.le_of_ble_eq_true rfl) (rcv_V rfl (congrArg Prod.fst (kf_49 X.1))) rfl ?_
        refine wp_iload rfl rfl ?_
        refine wp_ifltF (tn := 19) rfl rfl c4 ?_
        refine wp_iload rfl rfl ?_
        refine wp_iconst rfl ?_
        refine wp_icgeT (tn := 19) rfl rfl c6 ?_
        refine wp_sipush rfl ?_
        refine wp_lret rfl rfl ?_
        show Wp X _ 182 57 [vr 69, vr 49, vi x2, vi x3, vl x4, vu, vi x6, vl (w64 (x7 + 0)), vu, vl x9, vu, vi x11, vi ((i32 ((i32 x2 >>> (i32 (3 * (x11 - 1)) &&& 31)).toInt) &&& i32 7).toInt), vu] [vl 0, vl x9] _ _
        refine wp_ladd rfl ?_
        refine wp_lstore (L2 := [vr 69, vr 49, vi x2, vi x3, vl x4, vu, vi x6, vl (w64 (x7 + 0)), vu, vl (w64 (x9 + 0)), vu, vi x11, vi ((i32 ((i32 x2 >>> (i32 (3 * (x11 - 1)) &&& 31)).toInt) &&& i32 7).toInt), vu]) rfl (Nat.le_of_ble_eq_true rfl) rfl ?_
        have g7 := H.1
        replace H := H.2
        refine wp_iincR (L2 := [vr 69, vr 49, vi x2, vi x3, vl x4, vu, vi x6, vl (w64 (x7 + 0)), vu, vl (w64 (x9 + 0)), vu, vi (x11 + 1), vi ((i32 ((i32 x2 >>> (i32 (3 * (x11 - 1)) &&& 31)).toInt) &&& i32 7).toInt), vu]) rfl rfl g7 rfl ?_
        refine wp_goto (tn := 15) rfl rfl ?_
        exact H
      · replace H := H.2 c6
        refine wp_iload rfl rfl ?_
        refine wp_iflt (tn := 19) rfl rfl (fun c8 => ?_) (fun c8 => ?_)
        · replace H := H.1 c8
          refine wp_sipush rfl ?_
          refine wp_lret rfl rfl ?_
          show Wp X _ 182 44 [vr 69, vr 49, vi x2, vi x3, vl x4, vu, vi x6, vl x7, vu, vl x9, vu, vi x11, vi ((i32 ((i32 x2 >>> (i32 (3 * (x11 - 1)) &&& 31)).toInt) &&& i32 7).toInt), vu] [vl 0, vl x7] _ _
          refine wp_ladd rfl ?_
          refine wp_lstore (L2 := [vr 69, vr 49, vi x2, vi x3, vl x4, vu, vi x6, vl (w64 (x7 + 0)), vu, vl x9, vu, vi x11, vi ((i32 ((i32 x2 >>> (i32 (3 * (x11 - 1)) &&& 31)).toInt) &&& i32 7).toInt), vu]) rfl (Nat.le_of_ble_eq_true rfl) rfl ?_
          refine wp_lload rfl rfl ?_
          refine wp_aload rfl rfl ?_
          refine wp_iload rfl rfl ?_
          refine wp_iload rfl rfl ?_
          refine wp_call (k := 240) (ρ2 := 0) (L2 := [vr 49, vi ((i32 ((i32 x2 >>> (i32 (3 * (x11 - 1)) &&& 31)).toInt) &&& i32 7).toInt), vi x11]) rfl rfl rfl (Nat.le_of_ble_eq_true rfl) (Nat.le_of_ble_eq_true rfl) (Nat.le_of_ble_eq_true rfl) (rcv_V rfl (congrArg Prod.fst (kf_49 X.1))) rfl ?_
          refine wp_iload rfl rfl ?_
          refine wp_ifltF (tn := 19) rfl rfl c4 ?_
          refine wp_iload rfl rfl ?_
          refine wp_iconst rfl ?_
          refine wp_icgeF (tn := 19) rfl rfl c6 ?_
          refine wp_iload rfl rfl ?_
          refine wp_ifltT (tn := 19) rfl rfl c8 ?_
          refine wp_sipush rfl ?_
          refine wp_lret rfl rfl ?_
          show Wp X _ 182 57 [vr 69, vr 49, vi x2, vi x3, vl x4, vu, vi x6, vl (w64 (x7 + 0)), vu, vl x9, vu, vi x11, vi ((i32 ((i32 x2 >>> (i32 (3 * (x11 - 1)) &&& 31)).toInt) &&& i32 7).toInt), vu] [vl 0, vl x9] _ _
          refine wp_ladd rfl ?_
          refine wp_lstore (L2 := [vr 69, vr 49, vi x2, vi x3, vl x4, vu, vi x6, vl (w64 (x7 + 0)), vu, vl (w64 (x9 + 0)), vu, vi x11, vi ((i32 ((i32 x2 >>> (i32 (3 * (x11 - 1)) &&& 31)).toInt) &&& i32 7).toInt), vu]) rfl (Nat.le_of_ble_eq_true rfl) rfl ?_
          have g9 := H.1
          replace H := H.2
          refine wp_iincR (L2 := [vr 69, vr 49, vi x2, vi x3, vl x4, vu, vi x6, vl (w64 (x7 + 0)), vu, vl (w64 (x9 + 0)), vu, vi (x11 + 1), vi ((i32 ((i32 x2 >>> (i32 (3 * (x11 - 1)) &&& 31)).toInt) &&& i32 7).toInt), vu]) rfl rfl g9 rfl ?_
          refine wp_goto (tn := 15) rfl rfl ?_
          exact H
        · replace H := H.2 c8
          refine wp_iload rfl rfl ?_
          refine wp_iconst rfl ?_
          refine wp_iclt (tn := 21) rfl rfl (fun c10 => ?_) (fun c10 => ?_)
          · replace H := H.1 c10
            refine wp_aload rfl rfl ?_
            refine wp_getR (r := 49) rfl (congrArg Prod.fst (kf_49 X.1)) rfl ?_
            refine wp_iload rfl rfl ?_
            refine wp_laload rfl (kf_50 X.1) ⟨c4, c6⟩ ?_
            refine wp_aload rfl rfl ?_
            refine wp_getR (r := 51) rfl (congrArg Prod.fst (kf_49 X.1)) rfl ?_
            refine wp_iload rfl rfl ?_
            refine wp_laload rfl (kf_52 X.1) ⟨c8, c10⟩ ?_
            refine wp_land rfl ?_
            refine wp_lret rfl rfl ?_
            show Wp X _ 182 44 [vr 69, vr 49, vi x2, vi x3, vl x4, vu, vi x6, vl x7, vu, vl x9, vu, vi x11, vi ((i32 ((i32 x2 >>> (i32 (3 * (x11 - 1)) &&& 31)).toInt) &&& i32 7).toInt), vu] [vl ((i64 (h 50 ((i32 ((i32 x2 >>> (i32 (3 * (x11 - 1)) &&& 31)).toInt) &&& i32 7).toInt)) &&& i64 (h 52 x11)).toInt), vl x7] _ _
            refine wp_ladd rfl ?_
            refine wp_lstore (L2 := [vr 69, vr 49, vi x2, vi x3, vl x4, vu, vi x6, vl (w64 (x7 + ((i64 (h 50 ((i32 ((i32 x2 >>> (i32 (3 * (x11 - 1)) &&& 31)).toInt) &&& i32 7).toInt)) &&& i64 (h 52 x11)).toInt))), vu, vl x9, vu, vi x11, vi ((i32 ((i32 x2 >>> (i32 (3 * (x11 - 1)) &&& 31)).toInt) &&& i32 7).toInt), vu]) rfl (Nat.le_of_ble_eq_true rfl) rfl ?_
            refine wp_lload rfl rfl ?_
            refine wp_aload rfl rfl ?_
            refine wp_iload rfl rfl ?_
            refine wp_iload rfl rfl ?_
            refine wp_call (k := 240) (ρ2 := 0) (L2 := [vr 49, vi ((i32 ((i32 x2 >>> (i32 (3 * (x11 - 1)) &&& 31)).toInt) &&& i32 7).toInt), vi x11]) rfl rfl rfl (Nat.le_of_ble_eq_true rfl) (Nat.le_of_ble_eq_true rfl) (Nat.le_of_ble_eq_true rfl) (rcv_V rfl (congrArg Prod.fst (kf_49 X.1))) rfl ?_
            refine wp_iload rfl rfl ?_
            refine wp_ifltF (tn := 19) rfl rfl c4 ?_
            refine wp_iload rfl rfl ?_
            refine wp_iconst rfl ?_
            refine wp_icgeF (tn := 19) rfl rfl c6 ?_
            refine wp_iload rfl rfl ?_
            refine wp_ifltF (tn := 19) rfl rfl c8 ?_
            refine wp_iload rfl rfl ?_
            refine wp_iconst rfl ?_
            refine wp_icltT (tn := 21) rfl rfl c10 ?_
            refine wp_aload rfl rfl ?_
            refine wp_getR (r := 50) rfl (congrArg Prod.fst (kf_49 X.1)) rfl ?_
            refine wp_iload rfl rfl ?_
            refine wp_laload rfl (kf_51 X.1) ⟨c4, c6⟩ ?_
            refine wp_aload rfl rfl ?_
            refine wp_getR (r := 51) rfl (congrArg Prod.fst (kf_49 X.1)) rfl ?_
            refine wp_iload rfl rfl ?_
            refine wp_laload rfl (kf_52 X.1) ⟨c8, c10⟩ ?_
            refine wp_land rfl ?_
            refine wp_lret rfl rfl ?_
            show Wp X _ 182 57 [vr 69, vr 49, vi x2, vi x3, vl x4, vu, vi x6, vl (w64 (x7 + ((i64 (h 50 ((i32 ((i32 x2 >>> (i32 (3 * (x11 - 1)) &&& 31)).toInt) &&& i32 7).toInt)) &&& i64 (h 52 x11)).toInt))), vu, vl x9, vu, vi x11, vi ((i32 ((i32 x2 >>> (i32 (3 * (x11 - 1)) &&& 31)).toInt) &&& i32 7).toInt), vu] [vl ((i64 (h 51 ((i32 ((i32 x2 >>> (i32 (3 * (x11 - 1)) &&& 31)).toInt) &&& i32 7).toInt)) &&& i64 (h 52 x11)).toInt), vl x9] _ _
            refine wp_ladd rfl ?_
            refine wp_lstore (L2 := [vr 69, vr 49, vi x2, vi x3, vl x4, vu, vi x6, vl (w64 (x7 + ((i64 (h 50 ((i32 ((i32 x2 >>> (i32 (3 * (x11 - 1)) &&& 31)).toInt) &&& i32 7).toInt)) &&& i64 (h 52 x11)).toInt))), vu, vl (w64 (x9 + ((i64 (h 51 ((i32 ((i32 x2 >>> (i32 (3 * (x11 - 1)) &&& 31)).toInt) &&& i32 7).toInt)) &&& i64 (h 52 x11)).toInt))), vu, vi x11, vi ((i32 ((i32 x2 >>> (i32 (3 * (x11 - 1)) &&& 31)).toInt) &&& i32 7).toInt), vu]) rfl (Nat.le_of_ble_eq_true rfl) rfl ?_
            refine wp_iincR (L2 := [vr 69, vr 49, vi x2, vi x3, vl x4, vu, vi x6, vl (w64 (x7 + ((i64 (h 50 ((i32 ((i32 x2 >>> (i32 (3 * (x11 - 1)) &&& 31)).toInt) &&& i32 7).toInt)) &&& i64 (h 52 x11)).toInt))), vu, vl (w64 (x9 + ((i64 (h 51 ((i32 ((i32 x2 >>> (i32 (3 * (x11 - 1)) &&& 31)).toInt) &&& i32 7).toInt)) &&& i64 (h 52 x11)).toInt))), vu, vi (x11 + 1), vi ((i32 ((i32 x2 >>> (i32 (3 * (x11 - 1)) &&& 31)).toInt) &&& i32 7).toInt), vu]) rfl rfl (by clear H; unfold R32; omega) rfl ?_
            refine wp_goto (tn := 15) rfl rfl ?_
            exact H
          · replace H := H.2 c10
            refine wp_sipush rfl ?_
            refine wp_lret rfl rfl ?_
            show Wp X _ 182 44 [vr 69, vr 49, vi x2, vi x3, vl x4, vu, vi x6, vl x7, vu, vl x9, vu, vi x11, vi ((i32 ((i32 x2 >>> (i32 (3 * (x11 - 1)) &&& 31)).toInt) &&& i32 7).toInt), vu] [vl 0, vl x7] _ _
            refine wp_ladd rfl ?_
            refine wp_lstore (L2 := [vr 69, vr 49, vi x2, vi x3, vl x4, vu, vi x6, vl (w64 (x7 + 0)), vu, vl x9, vu, vi x11, vi ((i32 ((i32 x2 >>> (i32 (3 * (x11 - 1)) &&& 31)).toInt) &&& i32 7).toInt), vu]) rfl (Nat.le_of_ble_eq_true rfl) rfl ?_
            refine wp_lload rfl rfl ?_
            refine wp_aload rfl rfl ?_
            refine wp_iload rfl rfl ?_
            refine wp_iload rfl rfl ?_
            refine wp_call (k := 240) (ρ2 := 0) (L2 := [vr 49, vi ((i32 ((i32 x2 >>> (i32 (3 * (x11 - 1)) &&& 31)).toInt) &&& i32 7).toInt), vi x11]) rfl rfl rfl (Nat.le_of_ble_eq_true rfl) (Nat.le_of_ble_eq_true rfl) (Nat.le_of_ble_eq_true rfl) (rcv_V rfl (congrArg Prod.fst (kf_49 X.1))) rfl ?_
            refine wp_iload rfl rfl ?_
            refine wp_ifltF (tn := 19) rfl rfl c4 ?_
            refine wp_iload rfl rfl ?_
            refine wp_iconst rfl ?_
            refine wp_icgeF (tn := 19) rfl rfl c6 ?_
            refine wp_iload rfl rfl ?_
            refine wp_ifltF (tn := 19) rfl rfl c8 ?_
            refine wp_iload rfl rfl ?_
            refine wp_iconst rfl ?_
            refine wp_icltF (tn := 21) rfl rfl c10 ?_
            refine wp_sipush rfl ?_
            refine wp_lret rfl rfl ?_
            show Wp X _ 182 57 [vr 69, vr 49, vi x2, vi x3, vl x4, vu, vi x6, vl (w64 (x7 + 0)), vu, vl x9, vu, vi x11, vi ((i32 ((i32 x2 >>> (i32 (3 * (x11 - 1)) &&& 31)).toInt) &&& i32 7).toInt), vu] [vl 0, vl x9] _ _
            refine wp_ladd rfl ?_
            refine wp_lstore (L2 := [vr 69, vr 49, vi x2, vi x3, vl x4, vu, vi x6, vl (w64 (x7 + 0)), vu, vl (w64 (x9 + 0)), vu, vi x11, vi ((i32 ((i32 x2 >>> (i32 (3 * (x11 - 1)) &&& 31)).toInt) &&& i32 7).toInt), vu]) rfl (Nat.le_of_ble_eq_true rfl) rfl ?_
            have g11 := H.1
            replace H := H.2
            refine wp_iincR (L2 := [vr 69, vr 49, vi x2, vi x3, vl x4, vu, vi x6, vl (w64 (x7 + 0)), vu, vl (w64 (x9 + 0)), vu, vi (x11 + 1), vi ((i32 ((i32 x2 >>> (i32 (3 * (x11 - 1)) &&& 31)).toInt) &&& i32 7).toInt), vu]) rfl rfl g11 rfl ?_
            refine wp_goto (tn := 15) rfl rfl ?_
            exact H
/-- Odds.goOn(L$ZoneRules;IIJI)V, from 69 -/
theorem S182_69_49_69 {X : Nat × (Int → Int)} {h : HP} {Q : bQ} (x2 : Int) (zx3 : aV) (x4 : Int) (x6 : Int) (x7 : Int) (x9 : Int) (x11 : Int) (zx12 : aV) (H : ((8 ≤ x11 → Q none h) ∧ (x11 < 8 → ((0 ≤ x11 ∧ x11 < 8) ∧ (((lcp (w64 (x4 * (h 71 x11))) 0) ≠ 0 → (((lcp ((i64 ((i64 (w64 (x7 + ((i64 (h 50 x11) &&& i64 (h 52 0)).toInt))) ||| i64 (w64 (x9 + ((i64 (h 51 x11) &&& i64 (h 52 0)).toInt)))).toInt) &&& i64 (-9187201950435737472)).toInt) 0) = 0 → (((h 69 3) = 72 ∨ (h 69 3) = 73) ∧ (((h 69 3) = 72 → ((0 ≤ ((i32 ((i32 ((i32 ((i32 x2 <<< (i32 3 &&& 31)).toInt) ||| i32 x11).toInt) &&& i32 x6).toInt) &&& i32 4095).toInt) ∧ ((i32 ((i32 ((i32 ((i32 x2 <<< (i32 3 &&& 31)).toInt) ||| i32 x11).toInt) &&& i32 x6).toInt) &&& i32 4095).toInt) < 4096) ∧ Wp X 1 182 69 [vr 69, vr 49, vi x2, zx3, vl x4, vu, vi x6, vl x7, vu, vl x9, vu, vi (x11 + 1), vl (w64 (x4 * (h 71 x11))), vu] [] (upd2 h 72 ((i32 ((i32 ((i32 ((i32 x2 <<< (i32 3 &&& 31)).toInt) ||| i32 x11).toInt) &&& i32 x6).toInt) &&& i32 4095).toInt) (w64 ((h 72 ((i32 ((i32 ((i32 ((i32 x2 <<< (i32 3 &&& 31)).toInt) ||| i32 x11).toInt) &&& i32 x6).toInt) &&& i32 4095).toInt)) + (w64 (x4 * (h 71 x11)))))) Q)) ∧ ((h 69 3) = 73 → ((0 ≤ ((i32 ((i32 ((i32 ((i32 x2 <<< (i32 3 &&& 31)).toInt) ||| i32 x11).toInt) &&& i32 x6).toInt) &&& i32 4095).toInt) ∧ ((i32 ((i32 ((i32 ((i32 x2 <<< (i32 3 &&& 31)).toInt) ||| i32 x11).toInt) &&& i32 x6).toInt) &&& i32 4095).toInt) < 4096) ∧ Wp X 1 182 69 [vr 69, vr 49, vi x2, zx3, vl x4, vu, vi x6, vl x7, vu, vl x9, vu, vi (x11 + 1), vl (w64 (x4 * (h 71 x11))), vu] [] (upd2 h 73 ((i32 ((i32 ((i32 ((i32 x2 <<< (i32 3 &&& 31)).toInt) ||| i32 x11).toInt) &&& i32 x6).toInt) &&& i32 4095).toInt) (w64 ((h 73 ((i32 ((i32 ((i32 ((i32 x2 <<< (i32 3 &&& 31)).toInt) ||| i32 x11).toInt) &&& i32 x6).toInt) &&& i32 4095).toInt)) + (w64 (x4 * (h 71 x11)))))) Q))))) ∧ ((lcp ((i64 ((i64 (w64 (x7 + ((i64 (h 50 x11) &&& i64 (h 52 0)).toInt))) ||| i64 (w64 (x9 + ((i64 (h 51 x11) &&& i64 (h 52 0)).toInt)))).toInt) &&& i64 (-9187201950435737472)).toInt) 0) ≠ 0 → Wp X 1 182 69 [vr 69, vr 49, vi x2, zx3, vl x4, vu, vi x6, vl x7, vu, vl x9, vu, vi (x11 + 1), vl (w64 (x4 * (h 71 x11))), vu] [] (upd2 h 69 4 (w64 ((h 69 4) + (w64 (x4 * (h 71 x11)))))) Q))) ∧ ((lcp (w64 (x4 * (h 71 x11))) 0) = 0 → Wp X 1 182 69 [vr 69, vr 49, vi x2, zx3, vl x4, vu, vi x6, vl x7, vu, vl x9, vu, vi (x11 + 1), vl (w64 (x4 * (h 71 x11))), vu] [] h Q)))))) : Wp X 1 182 69 [vr 69, vr 49, vi x2, zx3, vl x4, vu, vi x6, vl x7, vu, vl x9, vu, vi x11, zx12, vu] [] h Q := by
  refine wp_iload rfl rfl ?_
  refine wp_iconst rfl ?_
  refine wp_icge (tn := 168) rfl rfl (fun c1 => ?_) (fun c1 => ?_)
  · replace H := H.1 c1
    exact wp_vret rfl rfl H
  · replace H := H.2 c1
    refine wp_lload rfl rfl ?_
    refine wp_aload rfl rfl ?_
    refine wp_getR (r := 70) rfl (congrArg Prod.fst (kf_69 X.1)) rfl ?_
    refine wp_iload rfl rfl ?_
    have g2 := H.1
    replace H := H.2
    refine wp_iaload rfl (kf_71 X.1) g2 ?_
    refine wp_i2l rfl ?_
    refine wp_lmul rfl ?_
    refine wp_lstore (L2 := [vr 69, vr 49, vi x2, zx3, vl x4, vu, vi x6, vl x7, vu, vl x9, vu, vi x11, vl (w64 (x4 * (h 71 x11))), vu]) rfl (Nat.le_of_ble_eq_true rfl) rfl ?_
    refine wp_lload rfl rfl ?_
    refine wp_sipush rfl ?_
    refine wp_lcmp rfl ?_
    refine wp_ifne (tn := 99) rfl rfl (fun c3 => ?_) (fun c3 => ?_)
    · replace H := H.1 c3
      refine wp_lload rfl rfl ?_
      refine wp_aload rfl rfl ?_
      refine wp_iload rfl rfl ?_
      refine wp_iconst rfl ?_
      refine wp_call (k := 239) (ρ2 := 0) (L2 := [vr 49, vi x11, vi 0]) rfl rfl rfl (Nat.le_of_ble_eq_true rfl) (Nat.le_of_ble_eq_true rfl) (Nat.le_of_ble_eq_true rfl) (rcv_V rfl (congrArg Prod.fst (kf_49 X.1))) rfl ?_
      refine wp_iload rfl rfl ?_
      refine wp_ifltF (tn := 19) rfl rfl g2.1 ?_
      refine wp_iload rfl rfl ?_
      refine wp_iconst rfl ?_
      refine wp_icgeF (tn := 19) rfl rfl (by clear H; omega) ?_
      refine wp_iload rfl rfl ?_
      refine wp_ifltF (tn := 19) rfl rfl (by decide) ?_
      refine wp_iload rfl rfl ?_
      refine wp_iconst rfl ?_
      refine wp_icltT (tn := 21) rfl rfl (by decide) ?_
      refine wp_aload rfl rfl ?_
      refine wp_getR (r := 49) rfl (congrArg Prod.fst (kf_49 X.1)) rfl ?_
      refine wp_iload rfl rfl ?_
      refine wp_laload rfl (kf_50 X.1) ⟨g2.1, (by clear H; omega)⟩ ?_
      refine wp_aload rfl rfl ?_
      refine wp_getR (r := 51) rfl (congrArg Prod.fst (kf_49 X.1)) rfl ?_
      refine wp_iload rfl rfl ?_
      refine wp_laload rfl (kf_52 X.1) (by decide) ?_
      refine wp_land rfl ?_
      refine wp_lret rfl rfl ?_
      show Wp X _ 182 108 [vr 69, vr 49, vi x2, zx3, vl x4, vu, vi x6, vl x7, vu, vl x9, vu, vi x11, vl (w64 (x4 * (h 71 x11))), vu] [vl ((i64 (h 50 x11) &&& i64 (h 52 0)).toInt), vl x7] _ _
      refine wp_ladd rfl ?_
      refine wp_lload rfl rfl ?_
      refine wp_aload rfl rfl ?_
      refine wp_iload rfl rfl ?_
      refine wp_iconst rfl ?_
      refine wp_call (k := 240) (ρ2 := 0) (L2 := [vr 49, vi x11, vi 0]) rfl rfl rfl (Nat.le_of_ble_eq_true rfl) (Nat.le_of_ble_eq_true rfl) (Nat.le_of_ble_eq_true rfl) (rcv_V rfl (congrArg Prod.fst (kf_49 X.1))) rfl ?_
      refine wp_iload rfl rfl ?_
      refine wp_ifltF (tn := 19) rfl rfl g2.1 ?_
      refine wp_iload rfl rfl ?_
      refine wp_iconst rfl ?_
      refine wp_icgeF (tn := 19) rfl rfl (by clear H; omega) ?_
      refine wp_iload rfl rfl ?_
      refine wp_ifltF (tn := 19) rfl rfl (by decide) ?_
      refine wp_iload rfl rfl ?_
      refine wp_iconst rfl ?_
      refine wp_icltT (tn := 21) rfl rfl (by decide) ?_
      refine wp_aload rfl rfl ?_
      refine wp_getR (r := 50) rfl (congrArg Prod.fst (kf_49 X.1)) rfl ?_
      refine wp_iload rfl rfl ?_
      refine wp_laload rfl (kf_51 X.1) ⟨g2.1, (by clear H; omega)⟩ ?_
      refine wp_aload rfl rfl ?_
      refine wp_getR (r := 51) rfl (congrArg Prod.fst (kf_49 X.1)) rfl ?_
      refine wp_iload rfl rfl ?_
      refine wp_laload rfl (kf_52 X.1) (by decide) ?_
      refine wp_land rfl ?_
      refine wp_lret rfl rfl ?_
      show Wp X _ 182 118 [vr 69, vr 49, vi x2, zx3, vl x4, vu, vi x6, vl x7, vu, vl x9, vu, vi x11, vl (w64 (x4 * (h 71 x11))), vu] [vl ((i64 (h 51 x11) &&& i64 (h 52 0)).toInt), vl x9, vl (w64 (x7 + ((i64 (h 50 x11) &&& i64 (h 52 0)).toInt)))] _ _
      refine wp_ladd rfl ?_
      refine wp_call (k := 242) (ρ2 := 0) (L2 := [vl (w64 (x7 + ((i64 (h 50 x11) &&& i64 (h 52 0)).toInt))), vu, vl (w64 (x9 + ((i64 (h 51 x11) &&& i64 (h 52 0)).toInt))), vu]) rfl rfl rfl (Nat.le_of_ble_eq_true rfl) (Nat.le_of_ble_eq_true rfl) (Nat.le_of_ble_eq_true rfl) (rcv_S rfl) rfl ?_
      refine wp_lload rfl rfl ?_
      refine wp_lload rfl rfl ?_
      refine wp_lor rfl ?_
      refine wp_sipush rfl ?_
      refine wp_land rfl ?_
      refine wp_sipush rfl ?_
      refine wp_lcmp rfl ?_
      refine wp_ifeq (tn := 16) rfl rfl (fun c4 => ?_) (fun c4 => ?_)
      · replace H := H.1 c4
        refine wp_iconst rfl ?_
        refine wp_zret rfl rfl (by decide) ?_
        show Wp X _ 182 122 [vr 69, vr 49, vi x2, zx3, vl x4, vu, vi x6, vl x7, vu, vl x9, vu, vi x11, vl (w64 (x4 * (h 71 x11))), vu] [vi 0] _ _
        refine wp_ifeqT (tn := 139) rfl rfl (by decide) ?_
        refine wp_aload rfl rfl ?_
        have g5 := H.1
        replace H := H.2
        rcases g5 with c6 | c6
        · replace H := H.1 c6
          refine wp_getM (j := 3) (r := 72) rfl (congrArg Prod.fst (kf_69 X.1)) rfl c6 ?_
          refine wp_iload rfl rfl ?_
          refine wp_iconst rfl ?_
          refine wp_ishl rfl ?_
          refine wp_iload rfl rfl ?_
          refine wp_ior rfl ?_
          refine wp_iload rfl rfl ?_
          refine wp_iand rfl ?_
          refine wp_iconst rfl ?_
          refine wp_iand rfl ?_
          refine wp_dup2 rfl ?_
          have g7 := H.1
          replace H := H.2
          refine wp_laload rfl (kf_72 X.1) g7 ?_
          refine wp_lload rfl rfl ?_
          refine wp_ladd rfl ?_
          refine wp_lastore rfl (kf_72 X.1) ⟨g7.1, g7.2⟩ ?_
          refine wp_iincR (L2 := [vr 69, vr 49, vi x2, zx3, vl x4, vu, vi x6, vl x7, vu, vl x9, vu, vi (x11 + 1), vl (w64 (x4 * (h 71 x11))), vu]) rfl rfl (by clear H; unfold R32; omega) rfl ?_
          refine wp_goto (tn := 69) rfl rfl ?_
          exact H
        · replace H := H.2 c6
          refine wp_getM (j := 3) (r := 73) rfl (congrArg Prod.fst (kf_69 X.1)) rfl c6 ?_
          refine wp_iload rfl rfl ?_
          refine wp_iconst rfl ?_
          refine wp_ishl rfl ?_
          refine wp_iload rfl rfl ?_
          refine wp_ior rfl ?_
          refine wp_iload rfl rfl ?_
          refine wp_iand rfl ?_
          refine wp_iconst rfl ?_
          refine wp_iand rfl ?_
          refine wp_dup2 rfl ?_
          have g8 := H.1
          replace H := H.2
          refine wp_laload rfl (kf_73 X.1) g8 ?_
          refine wp_lload rfl rfl ?_
          refine wp_ladd rfl ?_
          refine wp_lastore rfl (kf_73 X.1) ⟨g8.1, g8.2⟩ ?_
          refine wp_iincR (L2 := [vr 69, vr 49, vi x2, zx3, vl x4, vu, vi x6, vl x7, vu, vl x9, vu, vi (x11 + 1), vl (w64 (x4 * (h 71 x11))), vu]) rfl rfl (by clear H; unfold R32; omega) rfl ?_
          refine wp_goto (tn := 69) rfl rfl ?_
          exact H
      · replace H := H.2 c4
        refine wp_iconst rfl ?_
        refine wp_goto (tn := 17) rfl rfl ?_
        refine wp_zret rfl rfl (by decide) ?_
        show Wp X _ 182 122 [vr 69, vr 49, vi x2, zx3, vl x4, vu, vi x6, vl x7, vu, vl x9, vu, vi x11, vl (w64 (x4 * (h 71 x11))), vu] [vi 1] _ _
        refine wp_ifeqF (tn := 139) rfl rfl (by decide) ?_
        refine wp_aload rfl rfl ?_
        refine wp_dupR rfl ?_
        refine wp_getL (j := 4) rfl (congrArg Prod.fst (kf_69 X.1)) rfl ?_
        refine wp_lload rfl rfl ?_
        refine wp_ladd rfl ?_
        refine wp_putL (j := 4) rfl (congrArg Prod.fst (kf_69 X.1)) rfl rfl rfl ?_
        refine wp_goto (tn := 162) rfl rfl ?_
        refine wp_iincR (L2 := [vr 69, vr 49, vi x2, zx3, vl x4, vu, vi x6, vl x7, vu, vl x9, vu, vi (x11 + 1), vl (w64 (x4 * (h 71 x11))), vu]) rfl rfl (by clear H; unfold R32; omega) rfl ?_
        refine wp_goto (tn := 69) rfl rfl ?_
        exact H
    · replace H := H.2 c3
      refine wp_goto (tn := 162) rfl rfl ?_
      refine wp_iincR (L2 := [vr 69, vr 49, vi x2, zx3, vl x4, vu, vi x6, vl x7, vu, vl x9, vu, vi (x11 + 1), vl (w64 (x4 * (h 71 x11))), vu]) rfl rfl (by clear H; unfold R32; omega) rfl ?_
      refine wp_goto (tn := 69) rfl rfl ?_
      exact H
/-- Odds.goOn(L$ZoneRules;IIJI)V, from 0 -/
theorem S182_69_57_0 {X : Nat × (Int → Int)} {h : HP} {Q : bQ} (x2 : Int) (x3 : Int) (x4 : Int) (x6 : Int) (H : Wp X 1 182 15 [vr 69, vr 57, vi x2, vi x3, vl x4, vu, vi x6, vl (h 57 3), vu, vl (h 57 3), vu, vi 1, vu, vu] [] h Q) : Wp X 1 182 0 [vr 69, vr 57, vi x2, vi x3, vl x4, vu, vi x6, vu, vu, vu, vu, vu, vu, vu] [] h Q := by
  refine wp_aload rfl rfl ?_
  refine wp_call (k := 238) (ρ2 := 0) (L2 := [vr 57]) rfl rfl rfl (Nat.le_of_ble_eq_true rfl) (Nat.le_of_ble_eq_true rfl) (Nat.le_of_ble_eq_true rfl) (rcv_V rfl (congrArg Prod.fst (kf_57 X.1))) rfl ?_
  refine wp_aload rfl rfl ?_
  refine wp_getL (j := 3) rfl (congrArg Prod.fst (kf_57 X.1)) rfl ?_
  refine wp_lret rfl rfl ?_
  show Wp X _ 182 4 [vr 69, vr 57, vi x2, vi x3, vl x4, vu, vi x6, vu, vu, vu, vu, vu, vu, vu] [vl (h 57 3)] _ _
  refine wp_lstore (L2 := [vr 69, vr 57, vi x2, vi x3, vl x4, vu, vi x6, vl (h 57 3), vu, vu, vu, vu, vu, vu]) rfl (Nat.le_of_ble_eq_true rfl) rfl ?_
  refine wp_aload rfl rfl ?_
  refine wp_call (k := 238) (ρ2 := 0) (L2 := [vr 57]) rfl rfl rfl (Nat.le_of_ble_eq_true rfl) (Nat.le_of_ble_eq_true rfl) (Nat.le_of_ble_eq_true rfl) (rcv_V rfl (congrArg Prod.fst (kf_57 X.1))) rfl ?_
  refine wp_aload rfl rfl ?_
  refine wp_getL (j := 3) rfl (congrArg Prod.fst (kf_57 X.1)) rfl ?_
  refine wp_lret rfl rfl ?_
  show Wp X _ 182 10 [vr 69, vr 57, vi x2, vi x3, vl x4, vu, vi x6, vl (h 57 3), vu, vu, vu, vu, vu, vu] [vl (h 57 3)] _ _
  refine wp_lstore (L2 := [vr 69, vr 57, vi x2, vi x3, vl x4, vu, vi x6, vl (h 57 3), vu, vl (h 57 3), vu, vu, vu, vu]) rfl (Nat.le_of_ble_eq_true rfl) rfl ?_
  refine wp_iconst rfl ?_
  refine wp_istore (L2 := [vr 69, vr 57, vi x2, vi x3, vl x4, vu, vi x6, vl (h 57 3), vu, vl (h 57 3), vu, vi 1, vu, vu]) rfl (Nat.le_of_ble_eq_true rfl) rfl ?_
  exact H
/-- Odds.goOn(L$ZoneRules;IIJI)V, from 15 -/
theorem S182_69_57_15 {X : Nat × (Int → Int)} {h : HP} {Q : bQ} (x2 : Int) (x3 : Int) (x4 : Int) (x6 : Int) (x7 : Int) (x9 : Int) (x11 : Int) (zx12 : aV) (H : ((x3 < x11 → Wp X 1 182 69 [vr 69, vr 57, vi x2, vi x3, vl x4, vu, vi x6, vl x7, vu, vl x9, vu, vi 0, zx12, vu] [] h Q) ∧ (x11 ≤ x3 → ((R32 (x11 - 1)) ∧ ((R32 (3 * (x11 - 1))) ∧ ((((i32 ((i32 x2 >>> (i32 (3 * (x11 - 1)) &&& 31)).toInt) &&& i32 7).toInt) < 0 → ((R32 (x11 + 1)) ∧ Wp X 1 182 15 [vr 69, vr 57, vi x2, vi x3, vl x4, vu, vi x6, vl (w64 (x7 + 0)), vu, vl (w64 (x9 + 0)), vu, vi (x11 + 1), vi ((i32 ((i32 x2 >>> (i32 (3 * (x11 - 1)) &&& 31)).toInt) &&& i32 7).toInt), vu] [] h Q)) ∧ (0 ≤ ((i32 ((i32 x2 >>> (i32 (3 * (x11 - 1)) &&& 31)).toInt) &&& i32 7).toInt) → ((9 ≤ ((i32 ((i32 x2 >>> (i32 (3 * (x11 - 1)) &&& 31)).toInt) &&& i32 7).toInt) → ((R32 (x11 + 1)) ∧ Wp X 1 182 15 [vr 69, vr 57, vi x2, vi x3, vl x4, vu, vi x6, vl (w64 (x7 + 0)), vu, vl (w64 (x9 + 0)), vu, vi (x11 + 1), vi ((i32 ((i32 x2 >>> (i32 (3 * (x11 - 1)) &&& 31)).toInt) &&& i32 7).toInt), vu] [] h Q)) ∧ (((i32 ((i32 x2 >>> (i32 (3 * (x11 - 1)) &&& 31)).toInt) &&& i32 7).toInt) < 9 → ((x11 < 0 → ((R32 (x11 + 1)) ∧ Wp X 1 182 15 [vr 69, vr 57, vi x2, vi x3, vl x4, vu, vi x6, vl (w64 (x7 + 0)), vu, vl (w64 (x9 + 0)), vu, vi (x11 + 1), vi ((i32 ((i32 x2 >>> (i32 (3 * (x11 - 1)) &&& 31)).toInt) &&& i32 7).toInt), vu] [] h Q)) ∧ (0 ≤ x11 → ((x11 < 5 → Wp X 1 182 15 [vr 69, vr 57, vi x2, vi x3, vl x4, vu, vi x6, vl (w64 (x7 + ((i64 (h 58 ((i32 ((i32 x2 >>> (i32 (3 * (x11 - 1)) &&& 31)).toInt) &&& i32 7).toInt)) &&& i64 (h 60 x11)).toInt))), vu, vl (w64 (x9 + ((i64 (h 59 ((i32 ((i32 x2 >>> (i32 (3 * (x11 - 1)) &&& 31)).toInt) &&& i32 7).toInt)) &&& i64 (h 60 x11)).toInt))), vu, vi (x11 + 1), vi ((i32 ((i32 x2 >>> (i32 (3 * (x11 - 1)) &&& 31)).toInt) &&& i32 7).toInt), vu] [] h Q) ∧ (5 ≤ x11 → ((R32 (x11 + 1)) ∧ Wp X 1 182 15 [vr 69, vr 57, vi x2, vi x3, vl x4, vu, vi x6, vl (w64 (x7 + 0)), vu, vl (w64 (x9 + 0)), vu, vi (x11 + 1), vi ((i32 ((i32 x2 >>> (i32 (3 * (x11 - 1)) &&& 31)).toInt) &&& i32 7).toInt), vu] [] h Q)))))))))))))) : Wp X 1 182 15 [vr 69, vr 57, vi x2, vi x3, vl x4, vu, vi x6, vl x7, vu, vl x9, vu, vi x11, zx12, vu] [] h Q := by
  refine wp_iload rfl rfl ?_
  refine wp_iload rfl rfl ?_
  refine wp_icgt (tn := 66) rfl rfl (fun c1 => ?_) (fun c1 => ?_)
  · replace H := H.1 c1
    refine wp_iconst rfl ?_
    refine wp_istore (L2 := [vr 69, vr 57, vi x2, vi x3, vl x4, vu, vi x6, vl x7, vu, vl x9, vu, vi 0, zx12, vu]) rfl (Nat.le_of_ble_eq_true rfl) rfl ?_
    exact H
  · replace H := H.2 c1
    refine wp_iload rfl rfl ?_
    refine wp_iconst rfl ?_
    refine wp_iload rfl rfl ?_
    refine wp_iconst rfl ?_
    refine wp_isub rfl ?_
    have g2 := H.1
    replace H := H.2
    refine Wp.topI (y := (x11 - 1)) (w32_I g2) ?_
    refine wp_imul rfl ?_
    have g3 := H.1
    replace H := H.2
    refine Wp.topI (y := (3 * (x11 - 1))) (w32_I g3) ?_
    refine wp_ishr rfl ?_
    refine wp_iconst rfl ?_
    refine wp_iand rfl ?_
    refine wp_istore (L2 := [vr 69, vr 57, vi x2, vi x3, vl x4, vu, vi x6, vl x7, vu, vl x9, vu, vi x11, vi ((i32 ((i32 x2 >>> (i32 (3 * (x11 - 1)) &&& 31)).toInt) &&& i32 7).toInt), vu]) rfl (Nat.le_of_ble_eq_true rfl) rfl ?_
    refine wp_lload rfl rfl ?_
    refine wp_aload rfl rfl ?_
    refine wp_iload rfl rfl ?_
    refine wp_iload rfl rfl ?_
    refine wp_call (k := 239) (ρ2 := 0) (L2 := [vr 57, vi ((i32 ((i32 x2 >>> (i32 (3 * (x11 - 1)) &&& 31)).toInt) &&& i32 7).toInt), vi x11]) rfl rfl rfl (Nat.le_of_ble_eq_true rfl) (Nat.le_of_ble_eq_true rfl) (Nat.le_of_ble_eq_true rfl) (rcv_V rfl (congrArg Prod.fst (kf_57 X.1))) rfl ?_
    refine wp_iload rfl rfl ?_
    refine wp_iflt (tn := 19) rfl rfl (fun c4 => ?_) (fun c4 => ?_)
    · replace H := H.1 c4
      refine wp_sipush rfl ?_
      refine wp_lret rfl rfl ?_
      show Wp X _ 182 44 [vr 69, vr 57, vi x2, vi x3, vl x4, vu, vi x6, vl x7, vu, vl x9, vu, vi x11, vi ((i32 ((i32 x2 >>> (i32 (3 * (x11 - 1)) &&& 31)).toInt) &&& i32 7).toInt), vu] [vl 0, vl x7] _ _
      refine wp_ladd rfl ?_
      refine wp_lstore (L2 := [vr 69, vr 57, vi x2, vi x3, vl x4, vu, vi x6, vl (w64 (x7 + 0)), vu, vl x9, vu, vi x11, vi ((i32 ((i32 x2 >>> (i32 (3 * (x11 - 1)) &&& 31)).toInt) &&& i32 7).toInt), vu]) rfl (Nat.le_of_ble_eq_true rfl) rfl ?_
      refine wp_lload rfl rfl ?_
      refine wp_aload rfl rfl ?_
      refine wp_iload rfl rfl ?_
      refine wp_iload rfl rfl ?_
      refine wp_call (k := 240) (ρ2 := 0) (L2 := [vr 57, vi ((i32 ((i32 x2 >>> (i32 (3 * (x11 - 1)) &&& 31)).toInt) &&& i32 7).toInt), vi x11]) rfl rfl rfl (Nat.le_of_ble_eq_true rfl) (Nat.le_of_ble_eq_true rfl) (Nat.le_of_ble_eq_true rfl) (rcv_V rfl (congrArg Prod.fst (kf_57 X.1))) rfl ?_
      refine wp_iload rfl rfl ?_
      refine wp_ifltT (tn := 19) rfl rfl c4 ?_
      refine wp_sipush rfl ?_
      refine wp_lret rfl rfl ?_
      show Wp X _ 182 57 [vr 69, vr 57, vi x2, vi x3, vl x4, vu, vi x6, vl (w64 (x7 + 0)), vu, vl x9, vu, vi x11, vi ((i32 ((i32 x2 >>> (i32 (3 * (x11 - 1)) &&& 31)).toInt) &&& i32 7).toInt), vu] [vl 0, vl x9] _ _
      refine wp_ladd rfl ?_
      refine wp_lstore (L2 := [vr 69, vr 57, vi x2, vi x3, vl x4, vu, vi x6, vl (w64 (x7 + 0)), vu, vl (w64 (x9 + 0)), vu, vi x11, vi ((i32 ((i32 x2 >>> (i32 (3 * (x11 - 1)) &&& 31)).toInt) &&& i32 7).toInt), vu]) rfl (Nat.le_of_ble_eq_true rfl) rfl ?_
      have g5 := H.1
      replace H := H.2
      refine wp_iincR (L2 := [vr 69, vr 57, vi x2, vi x3, vl x4, vu, vi x6, vl (w64 (x7 + 0)), vu, vl (w64 (x9 + 0)), vu, vi (x11 + 1), vi ((i32 ((i32 x2 >>> (i32 (3 * (x11 - 1)) &&& 31)).toInt) &&& i32 7).toInt), vu]) rfl rfl g5 rfl ?_
      refine wp_goto (tn := 15) rfl rfl ?_
      exact H
    · replace H := H.2 c4
      refine wp_iload rfl rfl ?_
      refine wp_iconst rfl ?_
      refine wp_icge (tn := 19) rfl rfl (fun c6 => ?_) (fun c6 => ?_)
      · replace H := H.1 c6
        refine wp_sipush rfl ?_
        refine wp_lret rfl rfl ?_
        show Wp X _ 182 44 [vr 69, vr 57, vi x2, vi x3, vl x4, vu, vi x6, vl x7, vu, vl x9, vu, vi x11, vi ((i32 ((i32 x2 >>> (i32 (3 * (x11 - 1)) &&& 31)).toInt) &&& i32 7).toInt), vu] [vl 0, vl x7] _ _
        refine wp_ladd rfl ?_
        refine wp_lstore (L2 := [vr 69, vr 57, vi x2, vi x3, vl x4, vu, vi x6, vl (w64 (x7 + 0)), vu, vl x9, vu, vi x11, vi ((i32 ((i32 x2 >>> (i32 (3 * (x11 - 1)) &&& 31)).toInt) &&& i32 7).toInt), vu]) rfl (Nat.le_of_ble_eq_true rfl) rfl ?_
        refine wp_lload rfl rfl ?_
        refine wp_aload rfl rfl ?_
        refine wp_iload rfl rfl ?_
        refine wp_iload rfl rfl ?_
        refine wp_call (k := 240) (ρ2 := 0) (L2 := [vr 57, vi ((i32 ((i32 x2 >>> (i32 (3 * (x11 - 1)) &&& 31)).toInt) &&& i32 7).toInt), vi x11]) rfl rfl rfl (Nat.le_of_ble_eq_true rfl) (Nat.le_of_ble_eq_true rfl) (Nat.le_of_ble_eq_true rfl) (rcv_V rfl (congrArg Prod.fst (kf_57 X.1))) rfl ?_
        refine wp_iload rfl rfl ?_
        refine wp_ifltF (tn := 19) rfl rfl c4 ?_
        refine wp_iload rfl rfl ?_
        refine wp_iconst rfl ?_
        refine wp_icgeT (tn := 19) rfl rfl c6 ?_
        refine wp_sipush rfl ?_
        refine wp_lret rfl rfl ?_
        show Wp X _ 182 57 [vr 69, vr 57, vi x2, vi x3, vl x4, vu, vi x6, vl (w64 (x7 + 0)), vu, vl x9, vu, vi x11, vi ((i32 ((i32 x2 >>> (i32 (3 * (x11 - 1)) &&& 31)).toInt) &&& i32 7).toInt), vu] [vl 0, vl x9] _ _
        refine wp_ladd rfl ?_
        refine wp_lstore (L2 := [vr 69, vr 57, vi x2, vi x3, vl x4, vu, vi x6, vl (w64 (x7 + 0)), vu, vl (w64 (x9 + 0)), vu, vi x11, vi ((i32 ((i32 x2 >>> (i32 (3 * (x11 - 1)) &&& 31)).toInt) &&& i32 7).toInt), vu]) rfl (Nat.le_of_ble_eq_true rfl) rfl ?_
        have g7 := H.1
        replace H := H.2
        refine wp_iincR (L2 := [vr 69, vr 57, vi x2, vi x3, vl x4, vu, vi x6, vl (w64 (x7 + 0)), vu, vl (w64 (x9 + 0)), vu, vi (x11 + 1), vi ((i32 ((i32 x2 >>> (i32 (3 * (x11 - 1)) &&& 31)).toInt) &&& i32 7).toInt), vu]) rfl rfl g7 rfl ?_
        refine wp_goto (tn := 15) rfl rfl ?_
        exact H
      · replace H := H.2 c6
        refine wp_iload rfl rfl ?_
        refine wp_iflt (tn := 19) rfl rfl (fun c8 => ?_) (fun c8 => ?_)
        · replace H := H.1 c8
          refine wp_sipush rfl ?_
          refine wp_lret rfl rfl ?_
          show Wp X _ 182 44 [vr 69, vr 57, vi x2, vi x3, vl x4, vu, vi x6, vl x7, vu, vl x9, vu, vi x11, vi ((i32 ((i32 x2 >>> (i32 (3 * (x11 - 1)) &&& 31)).toInt) &&& i32 7).toInt), vu] [vl 0, vl x7] _ _
          refine wp_ladd rfl ?_
          refine wp_lstore (L2 := [vr 69, vr 57, vi x2, vi x3, vl x4, vu, vi x6, vl (w64 (x7 + 0)), vu, vl x9, vu, vi x11, vi ((i32 ((i32 x2 >>> (i32 (3 * (x11 - 1)) &&& 31)).toInt) &&& i32 7).toInt), vu]) rfl (Nat.le_of_ble_eq_true rfl) rfl ?_
          refine wp_lload rfl rfl ?_
          refine wp_aload rfl rfl ?_
          refine wp_iload rfl rfl ?_
          refine wp_iload rfl rfl ?_
          refine wp_call (k := 240) (ρ2 := 0) (L2 := [vr 57, vi ((i32 ((i32 x2 >>> (i32 (3 * (x11 - 1)) &&& 31)).toInt) &&& i32 7).toInt), vi x11]) rfl rfl rfl (Nat.le_of_ble_eq_true rfl) (Nat.le_of_ble_eq_true rfl) (Nat.le_of_ble_eq_true rfl) (rcv_V rfl (congrArg Prod.fst (kf_57 X.1))) rfl ?_
          refine wp_iload rfl rfl ?_
          refine wp_ifltF (tn := 19) rfl rfl c4 ?_
          refine wp_iload rfl rfl ?_
          refine wp_iconst rfl ?_
          refine wp_icgeF (tn := 19) rfl rfl c6 ?_
          refine wp_iload rfl rfl ?_
          refine wp_ifltT (tn := 19) rfl rfl c8 ?_
          refine wp_sipush rfl ?_
          refine wp_lret rfl rfl ?_
          show Wp X _ 182 57 [vr 69, vr 57, vi x2, vi x3, vl x4, vu, vi x6, vl (w64 (x7 + 0)), vu, vl x9, vu, vi x11, vi ((i32 ((i32 x2 >>> (i32 (3 * (x11 - 1)) &&& 31)).toInt) &&& i32 7).toInt), vu] [vl 0, vl x9] _ _
          refine wp_ladd rfl ?_
          refine wp_lstore (L2 := [vr 69, vr 57, vi x2, vi x3, vl x4, vu, vi x6, vl (w64 (x7 + 0)), vu, vl (w64 (x9 + 0)), vu, vi x11, vi ((i32 ((i32 x2 >>> (i32 (3 * (x11 - 1)) &&& 31)).toInt) &&& i32 7).toInt), vu]) rfl (Nat.le_of_ble_eq_true rfl) rfl ?_
          have g9 := H.1
          replace H := H.2
          refine wp_iincR (L2 := [vr 69, vr 57, vi x2, vi x3, vl x4, vu, vi x6, vl (w64 (x7 + 0)), vu, vl (w64 (x9 + 0)), vu, vi (x11 + 1), vi ((i32 ((i32 x2 >>> (i32 (3 * (x11 - 1)) &&& 31)).toInt) &&& i32 7).toInt), vu]) rfl rfl g9 rfl ?_
          refine wp_goto (tn := 15) rfl rfl ?_
          exact H
        · replace H := H.2 c8
          refine wp_iload rfl rfl ?_
          refine wp_iconst rfl ?_
          refine wp_iclt (tn := 21) rfl rfl (fun c10 => ?_) (fun c10 => ?_)
          · replace H := H.1 c10
            refine wp_aload rfl rfl ?_
            refine wp_getR (r := 57) rfl (congrArg Prod.fst (kf_57 X.1)) rfl ?_
            refine wp_iload rfl rfl ?_
            refine wp_laload rfl (kf_58 X.1) ⟨c4, c6⟩ ?_
            refine wp_aload rfl rfl ?_
            refine wp_getR (r := 59) rfl (congrArg Prod.fst (kf_57 X.1)) rfl ?_
            refine wp_iload rfl rfl ?_
            refine wp_laload rfl (kf_60 X.1) ⟨c8, c10⟩ ?_
            refine wp_land rfl ?_
            refine wp_lret rfl rfl ?_
            show Wp X _ 182 44 [vr 69, vr 57, vi x2, vi x3, vl x4, vu, vi x6, vl x7, vu, vl x9, vu, vi x11, vi ((i32 ((i32 x2 >>> (i32 (3 * (x11 - 1)) &&& 31)).toInt) &&& i32 7).toInt), vu] [vl ((i64 (h 58 ((i32 ((i32 x2 >>> (i32 (3 * (x11 - 1)) &&& 31)).toInt) &&& i32 7).toInt)) &&& i64 (h 60 x11)).toInt), vl x7] _ _
            refine wp_ladd rfl ?_
            refine wp_lstore (L2 := [vr 69, vr 57, vi x2, vi x3, vl x4, vu, vi x6, vl (w64 (x7 + ((i64 (h 58 ((i32 ((i32 x2 >>> (i32 (3 * (x11 - 1)) &&& 31)).toInt) &&& i32 7).toInt)) &&& i64 (h 60 x11)).toInt))), vu, vl x9, vu, vi x11, vi ((i32 ((i32 x2 >>> (i32 (3 * (x11 - 1)) &&& 31)).toInt) &&& i32 7).toInt), vu]) rfl (Nat.le_of_ble_eq_true rfl) rfl ?_
            refine wp_lload rfl rfl ?_
            refine wp_aload rfl rfl ?_
            refine wp_iload rfl rfl ?_
            refine wp_iload rfl rfl ?_
            refine wp_call (k := 240) (ρ2 := 0) (L2 := [vr 57, vi ((i32 ((i32 x2 >>> (i32 (3 * (x11 - 1)) &&& 31)).toInt) &&& i32 7).toInt), vi x11]) rfl rfl rfl (Nat.le_of_ble_eq_true rfl) (Nat.le_of_ble_eq_true rfl) (Nat.le_of_ble_eq_true rfl) (rcv_V rfl (congrArg Prod.fst (kf_57 X.1))) rfl ?_
            refine wp_iload rfl rfl ?_
            refine wp_ifltF (tn := 19) rfl rfl c4 ?_
            refine wp_iload rfl rfl ?_
            refine wp_iconst rfl ?_
            refine wp_icgeF (tn := 19) rfl rfl c6 ?_
            refine wp_iload rfl rfl ?_
            refine wp_ifltF (tn := 19) rfl rfl c8 ?_
            refine wp_iload rfl rfl ?_
            refine wp_iconst rfl ?_
            refine wp_icltT (tn := 21) rfl rfl c10 ?_
            refine wp_aload rfl rfl ?_
            refine wp_getR (r := 58) rfl (congrArg Prod.fst (kf_57 X.1)) rfl ?_
            refine wp_iload rfl rfl ?_
            refine wp_laload rfl (kf_59 X.1) ⟨c4, c6⟩ ?_
            refine wp_aload rfl rfl ?_
            refine wp_getR (r := 59) rfl (congrArg Prod.fst (kf_57 X.1)) rfl ?_
            refine wp_iload rfl rfl ?_
            refine wp_laload rfl (kf_60 X.1) ⟨c8, c10⟩ ?_
            refine wp_land rfl ?_
            refine wp_lret rfl rfl ?_
            show Wp X _ 182 57 [vr 69, vr 57, vi x2, vi x3, vl x4, vu, vi x6, vl (w64 (x7 + ((i64 (h 58 ((i32 ((i32 x2 >>> (i32 (3 * (x11 - 1)) &&& 31)).toInt) &&& i32 7).toInt)) &&& i64 (h 60 x11)).toInt))), vu, vl x9, vu, vi x11, vi ((i32 ((i32 x2 >>> (i32 (3 * (x11 - 1)) &&& 31)).toInt) &&& i32 7).toInt), vu] [vl ((i64 (h 59 ((i32 ((i32 x2 >>> (i32 (3 * (x11 - 1)) &&& 31)).toInt) &&& i32 7).toInt)) &&& i64 (h 60 x11)).toInt), vl x9] _ _
            refine wp_ladd rfl ?_
            refine wp_lstore (L2 := [vr 69, vr 57, vi x2, vi x3, vl x4, vu, vi x6, vl (w64 (x7 + ((i64 (h 58 ((i32 ((i32 x2 >>> (i32 (3 * (x11 - 1)) &&& 31)).toInt) &&& i32 7).toInt)) &&& i64 (h 60 x11)).toInt))), vu, vl (w64 (x9 + ((i64 (h 59 ((i32 ((i32 x2 >>> (i32 (3 * (x11 - 1)) &&& 31)).toInt) &&& i32 7).toInt)) &&& i64 (h 60 x11)).toInt))), vu, vi x11, vi ((i32 ((i32 x2 >>> (i32 (3 * (x11 - 1)) &&& 31)).toInt) &&& i32 7).toInt), vu]) rfl (Nat.le_of_ble_eq_true rfl) rfl ?_
            refine wp_iincR (L2 := [vr 69, vr 57, vi x2, vi x3, vl x4, vu, vi x6, vl (w64 (x7 + ((i64 (h 58 ((i32 ((i32 x2 >>> (i32 (3 * (x11 - 1)) &&& 31)).toInt) &&& i32 7).toInt)) &&& i64 (h 60 x11)).toInt))), vu, vl (w64 (x9 + ((i64 (h 59 ((i32 ((i32 x2 >>> (i32 (3 * (x11 - 1)) &&& 31)).toInt) &&& i32 7).toInt)) &&& i64 (h 60 x11)).toInt))), vu, vi (x11 + 1), vi ((i32 ((i32 x2 >>> (i32 (3 * (x11 - 1)) &&& 31)).toInt) &&& i32 7).toInt), vu]) rfl rfl (by clear H; unfold R32; omega) rfl ?_
            refine wp_goto (tn := 15) rfl rfl ?_
            exact H
          · replace H := H.2 c10
            refine wp_sipush rfl ?_
            refine wp_lret rfl rfl ?_
            show Wp X _ 182 44 [vr 69, vr 57, vi x2, vi x3, vl x4, vu, vi x6, vl x7, vu, vl x9, vu, vi x11, vi ((i32 ((i32 x2 >>> (i32 (3 * (x11 - 1)) &&& 31)).toInt) &&& i32 7).toInt), vu] [vl 0, vl x7] _ _
            refine wp_ladd rfl ?_
            refine wp_lstore (L2 := [vr 69, vr 57, vi x2, vi x3, vl x4, vu, vi x6, vl (w64 (x7 + 0)), vu, vl x9, vu, vi x11, vi ((i32 ((i32 x2 >>> (i32 (3 * (x11 - 1)) &&& 31)).toInt) &&& i32 7).toInt), vu]) rfl (Nat.le_of_ble_eq_true rfl) rfl ?_
            refine wp_lload rfl rfl ?_
            refine wp_aload rfl rfl ?_
            refine wp_iload rfl rfl ?_
            refine wp_iload rfl rfl ?_
            refine wp_call (k := 240) (ρ2 := 0) (L2 := [vr 57, vi ((i32 ((i32 x2 >>> (i32 (3 * (x11 - 1)) &&& 31)).toInt) &&& i32 7).toInt), vi x11]) rfl rfl rfl (Nat.le_of_ble_eq_true rfl) (Nat.le_of_ble_eq_true rfl) (Nat.le_of_ble_eq_true rfl) (rcv_V rfl (congrArg Prod.fst (kf_57 X.1))) rfl ?_
            refine wp_iload rfl rfl ?_
            refine wp_ifltF (tn := 19) rfl rfl c4 ?_
            refine wp_iload rfl rfl ?_
            refine wp_iconst rfl ?_
            refine wp_icgeF (tn := 19) rfl rfl c6 ?_
            refine wp_iload rfl rfl ?_
            refine wp_ifltF (tn := 19) rfl rfl c8 ?_
            refine wp_iload rfl rfl ?_
            refine wp_iconst rfl ?_
            refine wp_icltF (tn := 21) rfl rfl c10 ?_
            refine wp_sipush rfl ?_
            refine wp_lret rfl rfl ?_
            show Wp X _ 182 57 [vr 69, vr 57, vi x2, vi x3, vl x4, vu, vi x6, vl (w64 (x7 + 0)), vu, vl x9, vu, vi x11, vi ((i32 ((i32 x2 >>> (i32 (3 * (x11 - 1)) &&& 31)).toInt) &&& i32 7).toInt), vu] [vl 0, vl x9] _ _
            refine wp_ladd rfl ?_
            refine wp_lstore (L2 := [vr 69, vr 57, vi x2, vi x3, vl x4, vu, vi x6, vl (w64 (x7 + 0)), vu, vl (w64 (x9 + 0)), vu, vi x11, vi ((i32 ((i32 x2 >>> (i32 (3 * (x11 - 1)) &&& 31)).toInt) &&& i32 7).toInt), vu]) rfl (Nat.le_of_ble_eq_true rfl) rfl ?_
            have g11 := H.1
            replace H := H.2
            refine wp_iincR (L2 := [vr 69, vr 57, vi x2, vi x3, vl x4, vu, vi x6, vl (w64 (x7 + 0)), vu, vl (w64 (x9 + 0)), vu, vi (x11 + 1), vi ((i32 ((i32 x2 >>> (i32 (3 * (x11 - 1)) &&& 31)).toInt) &&& i32 7).toInt), vu]) rfl rfl g11 rfl ?_
            refine wp_goto (tn := 15) rfl rfl ?_
            exact H
/-- Odds.goOn(L$ZoneRules;IIJI)V, from 69 -/
theorem S182_69_57_69 {X : Nat × (Int → Int)} {h : HP} {Q : bQ} (x2 : Int) (zx3 : aV) (x4 : Int) (x6 : Int) (x7 : Int) (x9 : Int) (x11 : Int) (zx12 : aV) (H : ((8 ≤ x11 → Q none h) ∧ (x11 < 8 → ((0 ≤ x11 ∧ x11 < 8) ∧ (((lcp (w64 (x4 * (h 71 x11))) 0) ≠ 0 → (((lcp ((i64 ((i64 (w64 (x7 + ((i64 (h 58 x11) &&& i64 (h 60 0)).toInt))) ||| i64 (w64 (x9 + ((i64 (h 59 x11) &&& i64 (h 60 0)).toInt)))).toInt) &&& i64 (-9187201950435737472)).toInt) 0) = 0 → (((h 69 3) = 72 ∨ (h 69 3) = 73) ∧ (((h 69 3) = 72 → ((0 ≤ ((i32 ((i32 ((i32 ((i32 x2 <<< (i32 3 &&& 31)).toInt) ||| i32 x11).toInt) &&& i32 x6).toInt) &&& i32 4095).toInt) ∧ ((i32 ((i32 ((i32 ((i32 x2 <<< (i32 3 &&& 31)).toInt) ||| i32 x11).toInt) &&& i32 x6).toInt) &&& i32 4095).toInt) < 4096) ∧ Wp X 1 182 69 [vr 69, vr 57, vi x2, zx3, vl x4, vu, vi x6, vl x7, vu, vl x9, vu, vi (x11 + 1), vl (w64 (x4 * (h 71 x11))), vu] [] (upd2 h 72 ((i32 ((i32 ((i32 ((i32 x2 <<< (i32 3 &&& 31)).toInt) ||| i32 x11).toInt) &&& i32 x6).toInt) &&& i32 4095).toInt) (w64 ((h 72 ((i32 ((i32 ((i32 ((i32 x2 <<< (i32 3 &&& 31)).toInt) ||| i32 x11).toInt) &&& i32 x6).toInt) &&& i32 4095).toInt)) + (w64 (x4 * (h 71 x11)))))) Q)) ∧ ((h 69 3) = 73 → ((0 ≤ ((i32 ((i32 ((i32 ((i32 x2 <<< (i32 3 &&& 31)).toInt) ||| i32 x11).toInt) &&& i32 x6).toInt) &&& i32 4095).toInt) ∧ ((i32 ((i32 ((i32 ((i32 x2 <<< (i32 3 &&& 31)).toInt) ||| i32 x11).toInt) &&& i32 x6).toInt) &&& i32 4095).toInt) < 4096) ∧ Wp X 1 182 69 [vr 69, vr 57, vi x2, zx3, vl x4, vu, vi x6, vl x7, vu, vl x9, vu, vi (x11 + 1), vl (w64 (x4 * (h 71 x11))), vu] [] (upd2 h 73 ((i32 ((i32 ((i32 ((i32 x2 <<< (i32 3 &&& 31)).toInt) ||| i32 x11).toInt) &&& i32 x6).toInt) &&& i32 4095).toInt) (w64 ((h 73 ((i32 ((i32 ((i32 ((i32 x2 <<< (i32 3 &&& 31)).toInt) ||| i32 x11).toInt) &&& i32 x6).toInt) &&& i32 4095).toInt)) + (w64 (x4 * (h 71 x11)))))) Q))))) ∧ ((lcp ((i64 ((i64 (w64 (x7 + ((i64 (h 58 x11) &&& i64 (h 60 0)).toInt))) ||| i64 (w64 (x9 + ((i64 (h 59 x11) &&& i64 (h 60 0)).toInt)))).toInt) &&& i64 (-9187201950435737472)).toInt) 0) ≠ 0 → Wp X 1 182 69 [vr 69, vr 57, vi x2, zx3, vl x4, vu, vi x6, vl x7, vu, vl x9, vu, vi (x11 + 1), vl (w64 (x4 * (h 71 x11))), vu] [] (upd2 h 69 4 (w64 ((h 69 4) + (w64 (x4 * (h 71 x11)))))) Q))) ∧ ((lcp (w64 (x4 * (h 71 x11))) 0) = 0 → Wp X 1 182 69 [vr 69, vr 57, vi x2, zx3, vl x4, vu, vi x6, vl x7, vu, vl x9, vu, vi (x11 + 1), vl (w64 (x4 * (h 71 x11))), vu] [] h Q)))))) : Wp X 1 182 69 [vr 69, vr 57, vi x2, zx3, vl x4, vu, vi x6, vl x7, vu, vl x9, vu, vi x11, zx12, vu] [] h Q := by
  refine wp_iload rfl rfl ?_
  refine wp_iconst rfl ?_
  refine wp_icge (tn := 168) rfl rfl (fun c1 => ?_) (fun c1 => ?_)
  · replace H := H.1 c1
    exact wp_vret rfl rfl H
  · replace H := H.2 c1
    refine wp_lload rfl rfl ?_
    refine wp_aload rfl rfl ?_
    refine wp_getR (r := 70) rfl (congrArg Prod.fst (kf_69 X.1)) rfl ?_
    refine wp_iload rfl rfl ?_
    have g2 := H.1
    replace H := H.2
    refine wp_iaload rfl (kf_71 X.1) g2 ?_
    refine wp_i2l rfl ?_
    refine wp_lmul rfl ?_
    refine wp_lstore (L2 := [vr 69, vr 57, vi x2, zx3, vl x4, vu, vi x6, vl x7, vu, vl x9, vu, vi x11, vl (w64 (x4 * (h 71 x11))), vu]) rfl (Nat.le_of_ble_eq_true rfl) rfl ?_
    refine wp_lload rfl rfl ?_
    refine wp_sipush rfl ?_
    refine wp_lcmp rfl ?_
    refine wp_ifne (tn := 99) rfl rfl (fun c3 => ?_) (fun c3 => ?_)
    · replace H := H.1 c3
      refine wp_lload rfl rfl ?_
      refine wp_aload rfl rfl ?_
      refine wp_iload rfl rfl ?_
      refine wp_iconst rfl ?_
      refine wp_call (k := 239) (ρ2 := 0) (L2 := [vr 57, vi x11, vi 0]) rfl rfl rfl (Nat.le_of_ble_eq_true rfl) (Nat.le_of_ble_eq_true rfl) (Nat.le_of_ble_eq_true rfl) (rcv_V rfl (congrArg Prod.fst (kf_57 X.1))) rfl ?_
      refine wp_iload rfl rfl ?_
      refine wp_ifltF (tn := 19) rfl rfl g2.1 ?_
      refine wp_iload rfl rfl ?_
      refine wp_iconst rfl ?_
      refine wp_icgeF (tn := 19) rfl rfl (by clear H; omega) ?_
      refine wp_iload rfl rfl ?_
      refine wp_ifltF (tn := 19) rfl rfl (by decide) ?_
      refine wp_iload rfl rfl ?_
      refine wp_iconst rfl ?_
      refine wp_icltT (tn := 21) rfl rfl (by decide) ?_
      refine wp_aload rfl rfl ?_
      refine wp_getR (r := 57) rfl (congrArg Prod.fst (kf_57 X.1)) rfl ?_
      refine wp_iload rfl rfl ?_
      refine wp_laload rfl (kf_58 X.1) ⟨g2.1, (by clear H; omega)⟩ ?_
      refine wp_aload rfl rfl ?_
      refine wp_getR (r := 59) rfl (congrArg Prod.fst (kf_57 X.1)) rfl ?_
      refine wp_iload rfl rfl ?_
      refine wp_laload rfl (kf_60 X.1) (by decide) ?_
      refine wp_land rfl ?_
      refine wp_lret rfl rfl ?_
      show Wp X _ 182 108 [vr 69, vr 57, vi x2, zx3, vl x4, vu, vi x6, vl x7, vu, vl x9, vu, vi x11, vl (w64 (x4 * (h 71 x11))), vu] [vl ((i64 (h 58 x11) &&& i64 (h 60 0)).toInt), vl x7] _ _
      refine wp_ladd rfl ?_
      refine wp_lload rfl rfl ?_
      refine wp_aload rfl rfl ?_
      refine wp_iload rfl rfl ?_
      refine wp_iconst rfl ?_
      refine wp_call (k := 240) (ρ2 := 0) (L2 := [vr 57, vi x11, vi 0]) rfl rfl rfl (Nat.le_of_ble_eq_true rfl) (Nat.le_of_ble_eq_true rfl) (Nat.le_of_ble_eq_true rfl) (rcv_V rfl (congrArg Prod.fst (kf_57 X.1))) rfl ?_
      refine wp_iload rfl rfl ?_
      refine wp_ifltF (tn := 19) rfl rfl g2.1 ?_
      refine wp_iload rfl rfl ?_
      refine wp_iconst rfl ?_
      refine wp_icgeF (tn := 19) rfl rfl (by clear H; omega) ?_
      refine wp_iload rfl rfl ?_
      refine wp_ifltF (tn := 19) rfl rfl (by decide) ?_
      refine wp_iload rfl rfl ?_
      refine wp_iconst rfl ?_
      refine wp_icltT (tn := 21) rfl rfl (by decide) ?_
      refine wp_aload rfl rfl ?_
      refine wp_getR (r := 58) rfl (congrArg Prod.fst (kf_57 X.1)) rfl ?_
      refine wp_iload rfl rfl ?_
      refine wp_laload rfl (kf_59 X.1) ⟨g2.1, (by clear H; omega)⟩ ?_
      refine wp_aload rfl rfl ?_
      refine wp_getR (r := 59) rfl (congrArg Prod.fst (kf_57 X.1)) rfl ?_
      refine wp_iload rfl rfl ?_
      refine wp_laload rfl (kf_60 X.1) (by decide) ?_
      refine wp_land rfl ?_
      refine wp_lret rfl rfl ?_
      show Wp X _ 182 118 [vr 69, vr 57, vi x2, zx3, vl x4, vu, vi x6, vl x7, vu, vl x9, vu, vi x11, vl (w64 (x4 * (h 71 x11))), vu] [vl ((i64 (h 59 x11) &&& i64 (h 60 0)).toInt), vl x9, vl (w64 (x7 + ((i64 (h 58 x11) &&& i64 (h 60 0)).toInt)))] _ _
      refine wp_ladd rfl ?_
      refine wp_call (k := 242) (ρ2 := 0) (L2 := [vl (w64 (x7 + ((i64 (h 58 x11) &&& i64 (h 60 0)).toInt))), vu, vl (w64 (x9 + ((i64 (h 59 x11) &&& i64 (h 60 0)).toInt))), vu]) rfl rfl rfl (Nat.le_of_ble_eq_true rfl) (Nat.le_of_ble_eq_true rfl) (Nat.le_of_ble_eq_true rfl) (rcv_S rfl) rfl ?_
      refine wp_lload rfl rfl ?_
      refine wp_lload rfl rfl ?_
      refine wp_lor rfl ?_
      refine wp_sipush rfl ?_
      refine wp_land rfl ?_
      refine wp_sipush rfl ?_
      refine wp_lcmp rfl ?_
      refine wp_ifeq (tn := 16) rfl rfl (fun c4 => ?_) (fun c4 => ?_)
      · replace H := H.1 c4
        refine wp_iconst rfl ?_
        refine wp_zret rfl rfl (by decide) ?_
        show Wp X _ 182 122 [vr 69, vr 57, vi x2, zx3, vl x4, vu, vi x6, vl x7, vu, vl x9, vu, vi x11, vl (w64 (x4 * (h 71 x11))), vu] [vi 0] _ _
        refine wp_ifeqT (tn := 139) rfl rfl (by decide) ?_
        refine wp_aload rfl rfl ?_
        have g5 := H.1
        replace H := H.2
        rcases g5 with c6 | c6
        · replace H := H.1 c6
          refine wp_getM (j := 3) (r := 72) rfl (congrArg Prod.fst (kf_69 X.1)) rfl c6 ?_
          refine wp_iload rfl rfl ?_
          refine wp_iconst rfl ?_
          refine wp_ishl rfl ?_
          refine wp_iload rfl rfl ?_
          refine wp_ior rfl ?_
          refine wp_iload rfl rfl ?_
          refine wp_iand rfl ?_
          refine wp_iconst rfl ?_
          refine wp_iand rfl ?_
          refine wp_dup2 rfl ?_
          have g7 := H.1
          replace H := H.2
          refine wp_laload rfl (kf_72 X.1) g7 ?_
          refine wp_lload rfl rfl ?_
          refine wp_ladd rfl ?_
          refine wp_lastore rfl (kf_72 X.1) ⟨g7.1, g7.2⟩ ?_
          refine wp_iincR (L2 := [vr 69, vr 57, vi x2, zx3, vl x4, vu, vi x6, vl x7, vu, vl x9, vu, vi (x11 + 1), vl (w64 (x4 * (h 71 x11))), vu]) rfl rfl (by clear H; unfold R32; omega) rfl ?_
          refine wp_goto (tn := 69) rfl rfl ?_
          exact H
        · replace H := H.2 c6
          refine wp_getM (j := 3) (r := 73) rfl (congrArg Prod.fst (kf_69 X.1)) rfl c6 ?_
          refine wp_iload rfl rfl ?_
          refine wp_iconst rfl ?_
          refine wp_ishl rfl ?_
          refine wp_iload rfl rfl ?_
          refine wp_ior rfl ?_
          refine wp_iload rfl rfl ?_
          refine wp_iand rfl ?_
          refine wp_iconst rfl ?_
          refine wp_iand rfl ?_
          refine wp_dup2 rfl ?_
          have g8 := H.1
          replace H := H.2
          refine wp_laload rfl (kf_73 X.1) g8 ?_
          refine wp_lload rfl rfl ?_
          refine wp_ladd rfl ?_
          refine wp_lastore rfl (kf_73 X.1) ⟨g8.1, g8.2⟩ ?_
          refine wp_iincR (L2 := [vr 69, vr 57, vi x2, zx3, vl x4, vu, vi x6, vl x7, vu, vl x9, vu, vi (x11 + 1), vl (w64 (x4 * (h 71 x11))), vu]) rfl rfl (by clear H; unfold R32; omega) rfl ?_
          refine wp_goto (tn := 69) rfl rfl ?_
          exact H
      · replace H := H.2 c4
        refine wp_iconst rfl ?_
        refine wp_goto (tn := 17) rfl rfl ?_
        refine wp_zret rfl rfl (by decide) ?_
        show Wp X _ 182 122 [vr 69, vr 57, vi x2, zx3, vl x4, vu, vi x6, vl x7, vu, vl x9, vu, vi x11, vl (w64 (x4 * (h 71 x11))), vu] [vi 1] _ _
        refine wp_ifeqF (tn := 139) rfl rfl (by decide) ?_
        refine wp_aload rfl rfl ?_
        refine wp_dupR rfl ?_
        refine wp_getL (j := 4) rfl (congrArg Prod.fst (kf_69 X.1)) rfl ?_
        refine wp_lload rfl rfl ?_
        refine wp_ladd rfl ?_
        refine wp_putL (j := 4) rfl (congrArg Prod.fst (kf_69 X.1)) rfl rfl rfl ?_
        refine wp_goto (tn := 162) rfl rfl ?_
        refine wp_iincR (L2 := [vr 69, vr 57, vi x2, zx3, vl x4, vu, vi x6, vl x7, vu, vl x9, vu, vi (x11 + 1), vl (w64 (x4 * (h 71 x11))), vu]) rfl rfl (by clear H; unfold R32; omega) rfl ?_
        refine wp_goto (tn := 69) rfl rfl ?_
        exact H
    · replace H := H.2 c3
      refine wp_goto (tn := 162) rfl rfl ?_
      refine wp_iincR (L2 := [vr 69, vr 57, vi x2, zx3, vl x4, vu, vi x6, vl x7, vu, vl x9, vu, vi (x11 + 1), vl (w64 (x4 * (h 71 x11))), vu]) rfl rfl (by clear H; unfold R32; omega) rfl ?_
      refine wp_goto (tn := 69) rfl rfl ?_
      exact H
/-- Orders.millionthsWith(L$RuleText;I)I, from 0 -/
theorem S184_61_45_0 {X : Nat × (Int → Int)} {h : HP} {Q : bQ} (x2 : Int) (H : (((h 37 6) < 0 → Q (some (vi 0)) h) ∧ (0 ≤ (h 37 6) → ((8 ≤ (h 37 6) → Q (some (vi 0)) h) ∧ ((h 37 6) < 8 → (((stV 4 (h 37 6)) ≠ 0 → Wp X 12 185 0 [vr 61, vr 45, vi 0, vi 0, vi 0, vu, vu, vu, vu] [] (upd2 (upd2 h 61 2 x2) 62 6 0) (fun v h' => Wp X 14 184 40 [vr 61, vr 45, vi x2, vi (stV 4 (h 37 6))] (psh v [vl 1000000]) h' Q)) ∧ ((stV 4 (h 37 6)) = 0 → Q (some (vi 0)) h))))))) : Wp X 14 184 0 [vr 61, vr 45, vi x2, vu] [] h Q := by
  refine wp_aload rfl rfl ?_
  refine wp_getR (r := 36) rfl (congrArg Prod.fst (kf_61 X.1)) rfl ?_
  refine wp_call (k := 188) (ρ2 := 0) (L2 := [vr 37]) rfl rfl rfl (Nat.le_of_ble_eq_true rfl) (Nat.le_of_ble_eq_true rfl) (Nat.le_of_ble_eq_true rfl) (rcv_V rfl (congrArg Prod.fst (kf_37 X.1))) rfl ?_
  refine wp_aload rfl rfl ?_
  refine wp_getI (j := 6) rfl (congrArg Prod.fst (kf_37 X.1)) rfl ?_
  refine wp_iret rfl rfl ?_
  show Wp X _ 184 7 [vr 61, vr 45, vi x2, vu] [vi (h 37 6)] _ _
  refine wp_call (k := 186) (ρ2 := 0) (L2 := [vi (h 37 6)]) rfl rfl rfl (Nat.le_of_ble_eq_true rfl) (Nat.le_of_ble_eq_true rfl) (Nat.le_of_ble_eq_true rfl) (rcv_S rfl) rfl ?_
  refine wp_iload rfl rfl ?_
  refine wp_iflt (tn := 20) rfl rfl (fun c1 => ?_) (fun c1 => ?_)
  · replace H := H.1 c1
    refine wp_iconst rfl ?_
    refine wp_iret rfl rfl ?_
    show Wp X _ 184 10 [vr 61, vr 45, vi x2, vu] [vi 0] _ _
    refine wp_istore (L2 := [vr 61, vr 45, vi x2, vi 0]) rfl (Nat.le_of_ble_eq_true rfl) rfl ?_
    refine wp_iload rfl rfl ?_
    refine wp_ifneF (tn := 17) rfl rfl (by decide) ?_
    refine wp_iconst rfl ?_
    exact wp_iret rfl rfl H
  · replace H := H.2 c1
    refine wp_iload rfl rfl ?_
    refine wp_getstatic rfl ?_
    refine wp_alenK rfl (kf_4 X.1) ?_
    refine wp_icge (tn := 20) rfl rfl (fun c2 => ?_) (fun c2 => ?_)
    · replace H := H.1 c2
      refine wp_iconst rfl ?_
      refine wp_iret rfl rfl ?_
      show Wp X _ 184 10 [vr 61, vr 45, vi x2, vu] [vi 0] _ _
      refine wp_istore (L2 := [vr 61, vr 45, vi x2, vi 0]) rfl (Nat.le_of_ble_eq_true rfl) rfl ?_
      refine wp_iload rfl rfl ?_
      refine wp_ifneF (tn := 17) rfl rfl (by decide) ?_
      refine wp_iconst rfl ?_
      exact wp_iret rfl rfl H
    · replace H := H.2 c2
      refine wp_getstatic rfl ?_
      refine wp_iload rfl rfl ?_
      refine wp_ialoadS rfl (kf_4 X.1) ⟨c1, c2⟩ (by decide) ?_
      refine wp_goto (tn := 21) rfl rfl ?_
      refine wp_iret rfl rfl ?_
      show Wp X _ 184 10 [vr 61, vr 45, vi x2, vu] [vi (stV 4 (h 37 6))] _ _
      refine wp_istore (L2 := [vr 61, vr 45, vi x2, vi (stV 4 (h 37 6))]) rfl (Nat.le_of_ble_eq_true rfl) rfl ?_
      refine wp_iload rfl rfl ?_
      refine wp_ifne (tn := 17) rfl rfl (fun c3 => ?_) (fun c3 => ?_)
      · replace H := H.1 c3
        refine wp_aload rfl rfl ?_
        refine wp_iload rfl rfl ?_
        refine wp_putI (j := 2) rfl (congrArg Prod.fst (kf_61 X.1)) rfl rfl rfl ?_
        refine wp_aload rfl rfl ?_
        refine wp_getR (r := 61) rfl (congrArg Prod.fst (kf_61 X.1)) rfl ?_
        refine wp_call (k := 196) (ρ2 := 0) (L2 := [vr 62]) rfl rfl rfl (Nat.le_of_ble_eq_true rfl) (Nat.le_of_ble_eq_true rfl) (Nat.le_of_ble_eq_true rfl) (rcv_V rfl (congrArg Prod.fst (kf_62 X.1))) rfl ?_
        refine wp_aload rfl rfl ?_
        refine wp_iconst rfl ?_
        refine wp_putI (j := 6) rfl (congrArg Prod.fst (kf_62 X.1)) rfl rfl rfl ?_
        refine wp_vret rfl rfl ?_
        show Wp X _ 184 29 [vr 61, vr 45, vi x2, vi (stV 4 (h 37 6))] [] _ _
        refine wp_sipush rfl ?_
        refine wp_aload rfl rfl ?_
        refine wp_aload rfl rfl ?_
        refine wp_iconst rfl ?_
        refine wp_iconst rfl ?_
        refine wp_iconst rfl ?_
        exact wp_call (k := 185) (ρ2 := 12) (L2 := [vr 61, vr 45, vi 0, vi 0, vi 0, vu, vu, vu, vu]) rfl rfl rfl (Nat.le_of_ble_eq_true rfl) (Nat.le_of_ble_eq_true rfl) (Nat.le_of_ble_eq_true rfl) (rcv_S rfl) rfl H
      · replace H := H.2 c3
        refine wp_iconst rfl ?_
        exact wp_iret rfl rfl H
/-- Orders.millionthsWith(L$RuleText;I)I, from 40 -/
theorem S184_61_45_40 {X : Nat × (Int → Int)} {h : HP} {Q : bQ} (zx0 : aV) (zx1 : aV) (zx2 : aV) (x3 : Int) (s0 : Int) (s1 : Int) (H : ((R64 (s1 * s0)) ∧ (x3 ≠ 0 ∧ ((R64 (Int.tdiv (s1 * s0) x3)) ∧ ((R32 (Int.tdiv (s1 * s0) x3)) ∧ Q (some (vi (Int.tdiv (s1 * s0) x3))) h))))) : Wp X 14 184 40 [zx0, zx1, zx2, vi x3] [vi s0, vl s1] h Q := by
  refine wp_i2l rfl ?_
  refine wp_lmul rfl ?_
  have g1 := H.1
  replace H := H.2
  refine Wp.topL (y := (s1 * s0)) (w64_I g1) ?_
  refine wp_iload rfl rfl ?_
  refine wp_i2l rfl ?_
  have g2 := H.1
  replace H := H.2
  refine wp_ldiv rfl g2 ?_
  have g3 := H.1
  replace H := H.2
  refine Wp.topL (y := (Int.tdiv (s1 * s0) x3)) (w64_I g3) ?_
  refine wp_l2i rfl ?_
  have g4 := H.1
  replace H := H.2
  refine Wp.topI (y := (Int.tdiv (s1 * s0) x3)) (w32_I g4) ?_
  exact wp_iret rfl rfl H
/-- Orders.millionthsWith(L$RuleText;I)I, from 0 -/
theorem S184_61_53_0 {X : Nat × (Int → Int)} {h : HP} {Q : bQ} (x2 : Int) (H : (((h 37 6) < 0 → Q (some (vi 0)) h) ∧ (0 ≤ (h 37 6) → ((8 ≤ (h 37 6) → Q (some (vi 0)) h) ∧ ((h 37 6) < 8 → (((stV 4 (h 37 6)) ≠ 0 → Wp X 12 185 0 [vr 61, vr 53, vi 0, vi 0, vi 0, vu, vu, vu, vu] [] (upd2 (upd2 h 61 2 x2) 62 6 0) (fun v h' => Wp X 14 184 40 [vr 61, vr 53, vi x2, vi (stV 4 (h 37 6))] (psh v [vl 1000000]) h' Q)) ∧ ((stV 4 (h 37 6)) = 0 → Q (some (vi 0)) h))))))) : Wp X 14 184 0 [vr 61, vr 53, vi x2, vu] [] h Q := by
  refine wp_aload rfl rfl ?_
  refine wp_getR (r := 36) rfl (congrArg Prod.fst (kf_61 X.1)) rfl ?_
  refine wp_call (k := 188) (ρ2 := 0) (L2 := [vr 37]) rfl rfl rfl (Nat.le_of_ble_eq_true rfl) (Nat.le_of_ble_eq_true rfl) (Nat.le_of_ble_eq_true rfl) (rcv_V rfl (congrArg Prod.fst (kf_37 X.1))) rfl ?_
  refine wp_aload rfl rfl ?_
  refine wp_getI (j := 6) rfl (congrArg Prod.fst (kf_37 X.1)) rfl ?_
  refine wp_iret rfl rfl ?_
  show Wp X _ 184 7 [vr 61, vr 53, vi x2, vu] [vi (h 37 6)] _ _
  refine wp_call (k := 186) (ρ2 := 0) (L2 := [vi (h 37 6)]) rfl rfl rfl (Nat.le_of_ble_eq_true rfl) (Nat.le_of_ble_eq_true rfl) (Nat.le_of_ble_eq_true rfl) (rcv_S rfl) rfl ?_
  refine wp_iload rfl rfl ?_
  refine wp_iflt (tn := 20) rfl rfl (fun c1 => ?_) (fun c1 => ?_)
  · replace H := H.1 c1
    refine wp_iconst rfl ?_
    refine wp_iret rfl rfl ?_
    show Wp X _ 184 10 [vr 61, vr 53, vi x2, vu] [vi 0] _ _
    refine wp_istore (L2 := [vr 61, vr 53, vi x2, vi 0]) rfl (Nat.le_of_ble_eq_true rfl) rfl ?_
    refine wp_iload rfl rfl ?_
    refine wp_ifneF (tn := 17) rfl rfl (by decide) ?_
    refine wp_iconst rfl ?_
    exact wp_iret rfl rfl H
  · replace H := H.2 c1
    refine wp_iload rfl rfl ?_
    refine wp_getstatic rfl ?_
    refine wp_alenK rfl (kf_4 X.1) ?_
    refine wp_icge (tn := 20) rfl rfl (fun c2 => ?_) (fun c2 => ?_)
    · replace H := H.1 c2
      refine wp_iconst rfl ?_
      refine wp_iret rfl rfl ?_
      show Wp X _ 184 10 [vr 61, vr 53, vi x2, vu] [vi 0] _ _
      refine wp_istore (L2 := [vr 61, vr 53, vi x2, vi 0]) rfl (Nat.le_of_ble_eq_true rfl) rfl ?_
      refine wp_iload rfl rfl ?_
      refine wp_ifneF (tn := 17) rfl rfl (by decide) ?_
      refine wp_iconst rfl ?_
      exact wp_iret rfl rfl H
    · replace H := H.2 c2
      refine wp_getstatic rfl ?_
      refine wp_iload rfl rfl ?_
      refine wp_ialoadS rfl (kf_4 X.1) ⟨c1, c2⟩ (by decide) ?_
      refine wp_goto (tn := 21) rfl rfl ?_
      refine wp_iret rfl rfl ?_
      show Wp X _ 184 10 [vr 61, vr 53, vi x2, vu] [vi (stV 4 (h 37 6))] _ _
      refine wp_istore (L2 := [vr 61, vr 53, vi x2, vi (stV 4 (h 37 6))]) rfl (Nat.le_of_ble_eq_true rfl) rfl ?_
      refine wp_iload rfl rfl ?_
      refine wp_ifne (tn := 17) rfl rfl (fun c3 => ?_) (fun c3 => ?_)
      · replace H := H.1 c3
        refine wp_aload rfl rfl ?_
        refine wp_iload rfl rfl ?_
        refine wp_putI (j := 2) rfl (congrArg Prod.fst (kf_61 X.1)) rfl rfl rfl ?_
        refine wp_aload rfl rfl ?_
        refine wp_getR (r := 61) rfl (congrArg Prod.fst (kf_61 X.1)) rfl ?_
        refine wp_call (k := 196) (ρ2 := 0) (L2 := [vr 62]) rfl rfl rfl (Nat.le_of_ble_eq_true rfl) (Nat.le_of_ble_eq_true rfl) (Nat.le_of_ble_eq_true rfl) (rcv_V rfl (congrArg Prod.fst (kf_62 X.1))) rfl ?_
        refine wp_aload rfl rfl ?_
        refine wp_iconst rfl ?_
        refine wp_putI (j := 6) rfl (congrArg Prod.fst (kf_62 X.1)) rfl rfl rfl ?_
        refine wp_vret rfl rfl ?_
        show Wp X _ 184 29 [vr 61, vr 53, vi x2, vi (stV 4 (h 37 6))] [] _ _
        refine wp_sipush rfl ?_
        refine wp_aload rfl rfl ?_
        refine wp_aload rfl rfl ?_
        refine wp_iconst rfl ?_
        refine wp_iconst rfl ?_
        refine wp_iconst rfl ?_
        exact wp_call (k := 185) (ρ2 := 12) (L2 := [vr 61, vr 53, vi 0, vi 0, vi 0, vu, vu, vu, vu]) rfl rfl rfl (Nat.le_of_ble_eq_true rfl) (Nat.le_of_ble_eq_true rfl) (Nat.le_of_ble_eq_true rfl) (rcv_S rfl) rfl H
      · replace H := H.2 c3
        refine wp_iconst rfl ?_
        exact wp_iret rfl rfl H
/-- Orders.millionthsWith(L$RuleText;I)I, from 40 -/
theorem S184_61_53_40 {X : Nat × (Int → Int)} {h : HP} {Q : bQ} (zx0 : aV) (zx1 : aV) (zx2 : aV) (x3 : Int) (s0 : Int) (s1 : Int) (H : ((R64 (s1 * s0)) ∧ (x3 ≠ 0 ∧ ((R64 (Int.tdiv (s1 * s0) x3)) ∧ ((R32 (Int.tdiv (s1 * s0) x3)) ∧ Q (some (vi (Int.tdiv (s1 * s0) x3))) h))))) : Wp X 14 184 40 [zx0, zx1, zx2, vi x3] [vi s0, vl s1] h Q := by
  refine wp_i2l rfl ?_
  refine wp_lmul rfl ?_
  have g1 := H.1
  replace H := H.2
  refine Wp.topL (y := (s1 * s0)) (w64_I g1) ?_
  refine wp_iload rfl rfl ?_
  refine wp_i2l rfl ?_
  have g2 := H.1
  replace H := H.2
  refine wp_ldiv rfl g2 ?_
  have g3 := H.1
  replace H := H.2
  refine Wp.topL (y := (Int.tdiv (s1 * s0) x3)) (w64_I g3) ?_
  refine wp_l2i rfl ?_
  have g4 := H.1
  replace H := H.2
  refine Wp.topI (y := (Int.tdiv (s1 * s0) x3)) (w32_I g4) ?_
  exact wp_iret rfl rfl H
/-- Orders.enoughWarn(L$Orders;L$RuleText;III)I, from 0 -/
theorem S185_61_45_0 {X : Nat × (Int → Int)} {h : HP} {Q : bQ} {ρ : Nat} (hρ : 4 < ρ) (x2 : Int) (x3 : Int) (x4 : Int) (H : ((R32 ((h 37 6) - x2)) ∧ ((x4 < (h 61 2) → ((((h 37 6) - x2) ≤ 0 → Q (some (vi 0)) h) ∧ (0 < ((h 37 6) - x2) → ((7 ≤ x2 → Q (some (vi 0)) h) ∧ (x2 < 7 → ((R32 (x4 + ((h 37 6) - x2))) ∧ (((h 61 2) ≤ (x4 + ((h 37 6) - x2)) → Wp X ρ 185 57 [vr 61, vr 45, vi x2, vi x3, vi x4, vi ((h 37 6) - x2), vi 0, vi 0, vu] [] h Q) ∧ ((x4 + ((h 37 6) - x2)) < (h 61 2) → Q (some (vi 0)) h)))))))) ∧ ((h 61 2) ≤ x4 → ((((h 37 6) - x2) < 0 → Q (some (vi 0)) h) ∧ (0 ≤ ((h 37 6) - x2) → ((8 ≤ ((h 37 6) - x2) → Q (some (vi 0)) h) ∧ (((h 37 6) - x2) < 8 → Q (some (vi (stV 4 ((h 37 6) - x2)))) h)))))))) : Wp X ρ 185 0 [vr 61, vr 45, vi x2, vi x3, vi x4, vu, vu, vu, vu] [] h Q := by
  refine wp_aload rfl rfl ?_
  refine wp_getR (r := 36) rfl (congrArg Prod.fst (kf_61 X.1)) rfl ?_
  refine wp_call (k := 188) (ρ2 := 0) (L2 := [vr 37]) rfl rfl rfl (Nat.lt_of_le_of_lt (Nat.le_of_ble_eq_true rfl) hρ) (Nat.le_of_ble_eq_true rfl) (Nat.le_of_ble_eq_true rfl) (rcv_V rfl (congrArg Prod.fst (kf_37 X.1))) rfl ?_
  refine wp_aload rfl rfl ?_
  refine wp_getI (j := 6) rfl (congrArg Prod.fst (kf_37 X.1)) rfl ?_
  refine wp_iret rfl rfl ?_
  show Wp X _ 185 7 [vr 61, vr 45, vi x2, vi x3, vi x4, vu, vu, vu, vu] [vi (h 37 6)] _ _
  refine wp_iload rfl rfl ?_
  refine wp_isub rfl ?_
  have g1 := H.1
  replace H := H.2
  refine Wp.topI (y := ((h 37 6) - x2)) (w32_I g1) ?_
  refine wp_istore (L2 := [vr 61, vr 45, vi x2, vi x3, vi x4, vi ((h 37 6) - x2), vu, vu, vu]) rfl (Nat.le_of_ble_eq_true rfl) rfl ?_
  refine wp_iload rfl rfl ?_
  refine wp_aload rfl rfl ?_
  refine wp_getI (j := 2) rfl (congrArg Prod.fst (kf_61 X.1)) rfl ?_
  refine wp_iclt (tn := 26) rfl rfl (fun c2 => ?_) (fun c2 => ?_)
  · replace H := H.1 c2
    refine wp_iload rfl rfl ?_
    refine wp_ifle (tn := 49) rfl rfl (fun c3 => ?_) (fun c3 => ?_)
    · replace H := H.1 c3
      refine wp_iconst rfl ?_
      exact wp_iret rfl rfl H
    · replace H := H.2 c3
      refine wp_iload rfl rfl ?_
      refine wp_iconst rfl ?_
      refine wp_icge (tn := 49) rfl rfl (fun c4 => ?_) (fun c4 => ?_)
      · replace H := H.1 c4
        refine wp_iconst rfl ?_
        exact wp_iret rfl rfl H
      · replace H := H.2 c4
        refine wp_iload rfl rfl ?_
        refine wp_iload rfl rfl ?_
        refine wp_iadd rfl ?_
        have g5 := H.1
        replace H := H.2
        refine Wp.topI (y := (x4 + ((h 37 6) - x2))) (w32_I g5) ?_
        refine wp_aload rfl rfl ?_
        refine wp_getI (j := 2) rfl (congrArg Prod.fst (kf_61 X.1)) rfl ?_
        refine wp_icge (tn := 51) rfl rfl (fun c6 => ?_) (fun c6 => ?_)
        · replace H := H.1 c6
          refine wp_iconst rfl ?_
          refine wp_istore (L2 := [vr 61, vr 45, vi x2, vi x3, vi x4, vi ((h 37 6) - x2), vi 0, vu, vu]) rfl (Nat.le_of_ble_eq_true rfl) rfl ?_
          refine wp_iconst rfl ?_
          refine wp_istore (L2 := [vr 61, vr 45, vi x2, vi x3, vi x4, vi ((h 37 6) - x2), vi 0, vi 0, vu]) rfl (Nat.le_of_ble_eq_true rfl) rfl ?_
          exact H
        · replace H := H.2 c6
          refine wp_iconst rfl ?_
          exact wp_iret rfl rfl H
  · replace H := H.2 c2
    refine wp_iload rfl rfl ?_
    refine wp_call (k := 186) (ρ2 := 0) (L2 := [vi ((h 37 6) - x2)]) rfl rfl rfl (Nat.lt_of_le_of_lt (Nat.le_of_ble_eq_true rfl) hρ) (Nat.le_of_ble_eq_true rfl) (Nat.le_of_ble_eq_true rfl) (rcv_S rfl) rfl ?_
    refine wp_iload rfl rfl ?_
    refine wp_iflt (tn := 20) rfl rfl (fun c7 => ?_) (fun c7 => ?_)
    · replace H := H.1 c7
      refine wp_iconst rfl ?_
      refine wp_iret rfl rfl ?_
      show Wp X _ 185 25 [vr 61, vr 45, vi x2, vi x3, vi x4, vi ((h 37 6) - x2), vu, vu, vu] [vi 0] _ _
      exact wp_iret rfl rfl H
    · replace H := H.2 c7
      refine wp_iload rfl rfl ?_
      refine wp_getstatic rfl ?_
      refine wp_alenK rfl (kf_4 X.1) ?_
      refine wp_icge (tn := 20) rfl rfl (fun c8 => ?_) (fun c8 => ?_)
      · replace H := H.1 c8
        refine wp_iconst rfl ?_
        refine wp_iret rfl rfl ?_
        show Wp X _ 185 25 [vr 61, vr 45, vi x2, vi x3, vi x4, vi ((h 37 6) - x2), vu, vu, vu] [vi 0] _ _
        exact wp_iret rfl rfl H
      · replace H := H.2 c8
        refine wp_getstatic rfl ?_
        refine wp_iload rfl rfl ?_
        refine wp_ialoadS rfl (kf_4 X.1) ⟨c7, c8⟩ (by decide) ?_
        refine wp_goto (tn := 21) rfl rfl ?_
        refine wp_iret rfl rfl ?_
        show Wp X _ 185 25 [vr 61, vr 45, vi x2, vi x3, vi x4, vi ((h 37 6) - x2), vu, vu, vu] [vi (stV 4 ((h 37 6) - x2))] _ _
        exact wp_iret rfl rfl H
/-- Orders.enoughWarn(L$Orders;L$RuleText;III)I, from 57 -/
theorem S185_61_45_57 {X : Nat × (Int → Int)} {h : HP} {Q : bQ} {ρ : Nat} (hρ : 4 < ρ) (x2 : Int) (x3 : Int) (x4 : Int) (zx5 : aV) (x6 : Int) (x7 : Int) (zx8 : aV) (H : (((h 37 6) ≤ x7 → Q (some (vi x6)) h) ∧ (x7 < (h 37 6) → ((((i32 ((i32 x3 >>> (i32 x7 &&& 31)).toInt) &&& i32 1).toInt) ≠ 0 → ((R32 (x7 + 1)) ∧ Wp X ρ 185 57 [vr 61, vr 45, vi x2, vi x3, vi x4, zx5, vi x6, vi (x7 + 1), zx8] [] h Q)) ∧ (((i32 ((i32 x3 >>> (i32 x7 &&& 31)).toInt) &&& i32 1).toInt) = 0 → ((x2 < 0 → ((x7 < 0 → Wp X 0 198 0 [vr 62, vi (-1), vi 0, vi 8, vu, vu] [] h (fun v h' => Wp X ρ 185 120 [vr 61, vr 45, vi x2, vi x3, vi x4, zx5, vi x6, vi x7, zx8] (psh v []) h' Q)) ∧ (0 ≤ x7 → ((0 ≤ x7 ∧ x7 < 20) ∧ Wp X 0 198 0 [vr 62, vi (h 38 x7), vi (h 39 x7), vi (h 40 x7), vu, vu] [] h (fun v h' => Wp X ρ 185 120 [vr 61, vr 45, vi x2, vi x3, vi x4, zx5, vi x6, vi x7, zx8] (psh v []) h' Q))))) ∧ (0 ≤ x2 → (((h 62 6) ≤ x2 → ((x7 < 0 → Wp X 0 198 0 [vr 62, vi (-1), vi 0, vi 8, vu, vu] [] h (fun v h' => Wp X ρ 185 120 [vr 61, vr 45, vi x2, vi x3, vi x4, zx5, vi x6, vi x7, zx8] (psh v []) h' Q)) ∧ (0 ≤ x7 → ((0 ≤ x7 ∧ x7 < 20) ∧ Wp X 0 198 0 [vr 62, vi (h 38 x7), vi (h 39 x7), vi (h 40 x7), vu, vu] [] h (fun v h' => Wp X ρ 185 120 [vr 61, vr 45, vi x2, vi x3, vi x4, zx5, vi x6, vi x7, zx8] (psh v []) h' Q))))) ∧ (x2 < (h 62 6) → ((x7 < 0 → Wp X 0 198 0 [vr 62, vi (-1), vi 0, vi 8, vu, vu] [] (upd2 h 62 6 x2) (fun v h' => Wp X ρ 185 120 [vr 61, vr 45, vi x2, vi x3, vi x4, zx5, vi x6, vi x7, zx8] (psh v []) h' Q)) ∧ (0 ≤ x7 → ((0 ≤ x7 ∧ x7 < 20) ∧ Wp X 0 198 0 [vr 62, vi (h 38 x7), vi (h 39 x7), vi (h 40 x7), vu, vu] [] (upd2 h 62 6 x2) (fun v h' => Wp X ρ 185 120 [vr 61, vr 45, vi x2, vi x3, vi x4, zx5, vi x6, vi x7, zx8] (psh v []) h' Q))))))))))))) : Wp X ρ 185 57 [vr 61, vr 45, vi x2, vi x3, vi x4, zx5, vi x6, vi x7, zx8] [] h Q := by
  refine wp_iload rfl rfl ?_
  refine wp_aload rfl rfl ?_
  refine wp_getR (r := 36) rfl (congrArg Prod.fst (kf_61 X.1)) rfl ?_
  refine wp_call (k := 188) (ρ2 := 0) (L2 := [vr 37]) rfl rfl rfl (Nat.lt_of_le_of_lt (Nat.le_of_ble_eq_true rfl) hρ) (Nat.le_of_ble_eq_true rfl) (Nat.le_of_ble_eq_true rfl) (rcv_V rfl (congrArg Prod.fst (kf_37 X.1))) rfl ?_
  refine wp_aload rfl rfl ?_
  refine wp_getI (j := 6) rfl (congrArg Prod.fst (kf_37 X.1)) rfl ?_
  refine wp_iret rfl rfl ?_
  show Wp X _ 185 66 [vr 61, vr 45, vi x2, vi x3, vi x4, zx5, vi x6, vi x7, zx8] [vi (h 37 6), vi x7] _ _
  refine wp_icge (tn := 169) rfl rfl (fun c1 => ?_) (fun c1 => ?_)
  · replace H := H.1 c1
    refine wp_iload rfl rfl ?_
    exact wp_iret rfl rfl H
  · replace H := H.2 c1
    refine wp_iload rfl rfl ?_
    refine wp_iload rfl rfl ?_
    refine wp_ishr rfl ?_
    refine wp_iconst rfl ?_
    refine wp_iand rfl ?_
    refine wp_ifne (tn := 163) rfl rfl (fun c2 => ?_) (fun c2 => ?_)
    · replace H := H.1 c2
      have g3 := H.1
      replace H := H.2
      refine wp_iincR (L2 := [vr 61, vr 45, vi x2, vi x3, vi x4, zx5, vi x6, vi (x7 + 1), zx8]) rfl rfl g3 rfl ?_
      refine wp_goto (tn := 57) rfl rfl ?_
      exact H
    · replace H := H.2 c2
      refine wp_aload rfl rfl ?_
      refine wp_getR (r := 61) rfl (congrArg Prod.fst (kf_61 X.1)) rfl ?_
      refine wp_iload rfl rfl ?_
      refine wp_call (k := 197) (ρ2 := 0) (L2 := [vr 62, vi x2]) rfl rfl rfl (Nat.lt_of_le_of_lt (Nat.le_of_ble_eq_true rfl) hρ) (Nat.le_of_ble_eq_true rfl) (Nat.le_of_ble_eq_true rfl) (rcv_V rfl (congrArg Prod.fst (kf_62 X.1))) rfl ?_
      refine wp_iload rfl rfl ?_
      refine wp_iflt (tn := 17) rfl rfl (fun c4 => ?_) (fun c4 => ?_)
      · replace H := H.1 c4
        refine wp_vret rfl rfl ?_
        show Wp X _ 185 86 [vr 61, vr 45, vi x2, vi x3, vi x4, zx5, vi x6, vi x7, zx8] [] _ _
        refine wp_aload rfl rfl ?_
        refine wp_getR (r := 61) rfl (congrArg Prod.fst (kf_61 X.1)) rfl ?_
        refine wp_aload rfl rfl ?_
        refine wp_getR (r := 36) rfl (congrArg Prod.fst (kf_61 X.1)) rfl ?_
        refine wp_iload rfl rfl ?_
        refine wp_call (k := 190) (ρ2 := 1) (L2 := [vr 37, vi x7]) rfl rfl rfl (Nat.lt_of_le_of_lt (Nat.le_of_ble_eq_true rfl) hρ) (Nat.le_of_ble_eq_true rfl) (Nat.le_of_ble_eq_true rfl) (rcv_V rfl (congrArg Prod.fst (kf_37 X.1))) rfl ?_
        refine wp_aload rfl rfl ?_
        refine wp_iload rfl rfl ?_
        refine wp_call (k := 189) (ρ2 := 0) (L2 := [vr 37, vi x7]) rfl rfl rfl (Nat.le_of_ble_eq_true rfl) (Nat.le_of_ble_eq_true rfl) (Nat.le_of_ble_eq_true rfl) (rcv_V rfl (congrArg Prod.fst (kf_37 X.1))) rfl ?_
        refine wp_iload rfl rfl ?_
        refine wp_iflt (tn := 16) rfl rfl (fun c5 => ?_) (fun c5 => ?_)
        · replace H := H.1 c5
          refine wp_iconst rfl ?_
          refine wp_zret rfl rfl (by decide) ?_
          show Wp X _ 190 5 [vr 37, vi x7] [vi 0] _ _
          refine wp_ifeqT (tn := 17) rfl rfl (by decide) ?_
          refine wp_iconst rfl ?_
          refine wp_iret rfl rfl ?_
          show Wp X _ 185 99 [vr 61, vr 45, vi x2, vi x3, vi x4, zx5, vi x6, vi x7, zx8] [vi (-1), vr 62] _ _
          refine wp_aload rfl rfl ?_
          refine wp_getR (r := 36) rfl (congrArg Prod.fst (kf_61 X.1)) rfl ?_
          refine wp_iload rfl rfl ?_
          refine wp_call (k := 191) (ρ2 := 1) (L2 := [vr 37, vi x7]) rfl rfl rfl (Nat.lt_of_le_of_lt (Nat.le_of_ble_eq_true rfl) hρ) (Nat.le_of_ble_eq_true rfl) (Nat.le_of_ble_eq_true rfl) (rcv_V rfl (congrArg Prod.fst (kf_37 X.1))) rfl ?_
          refine wp_aload rfl rfl ?_
          refine wp_iload rfl rfl ?_
          refine wp_call (k := 189) (ρ2 := 0) (L2 := [vr 37, vi x7]) rfl rfl rfl (Nat.le_of_ble_eq_true rfl) (Nat.le_of_ble_eq_true rfl) (Nat.le_of_ble_eq_true rfl) (rcv_V rfl (congrArg Prod.fst (kf_37 X.1))) rfl ?_
          refine wp_iload rfl rfl ?_
          refine wp_ifltT (tn := 16) rfl rfl c5 ?_
          refine wp_iconst rfl ?_
          refine wp_zret rfl rfl (by decide) ?_
          show Wp X _ 191 5 [vr 37, vi x7] [vi 0] _ _
          refine wp_ifeqT (tn := 17) rfl rfl (by decide) ?_
          refine wp_iconst rfl ?_
          refine wp_iret rfl rfl ?_
          show Wp X _ 185 108 [vr 61, vr 45, vi x2, vi x3, vi x4, zx5, vi x6, vi x7, zx8] [vi 0, vi (-1), vr 62] _ _
          refine wp_aload rfl rfl ?_
          refine wp_getR (r := 36) rfl (congrArg Prod.fst (kf_61 X.1)) rfl ?_
          refine wp_iload rfl rfl ?_
          refine wp_call (k := 192) (ρ2 := 1) (L2 := [vr 37, vi x7]) rfl rfl rfl (Nat.lt_of_le_of_lt (Nat.le_of_ble_eq_true rfl) hρ) (Nat.le_of_ble_eq_true rfl) (Nat.le_of_ble_eq_true rfl) (rcv_V rfl (congrArg Prod.fst (kf_37 X.1))) rfl ?_
          refine wp_aload rfl rfl ?_
          refine wp_iload rfl rfl ?_
          refine wp_call (k := 189) (ρ2 := 0) (L2 := [vr 37, vi x7]) rfl rfl rfl (Nat.le_of_ble_eq_true rfl) (Nat.le_of_ble_eq_true rfl) (Nat.le_of_ble_eq_true rfl) (rcv_V rfl (congrArg Prod.fst (kf_37 X.1))) rfl ?_
          refine wp_iload rfl rfl ?_
          refine wp_ifltT (tn := 16) rfl rfl c5 ?_
          refine wp_iconst rfl ?_
          refine wp_zret rfl rfl (by decide) ?_
          show Wp X _ 192 5 [vr 37, vi x7] [vi 0] _ _
          refine wp_ifeqT (tn := 17) rfl rfl (by decide) ?_
          refine wp_iconst rfl ?_
          refine wp_iret rfl rfl ?_
          show Wp X _ 185 117 [vr 61, vr 45, vi x2, vi x3, vi x4, zx5, vi x6, vi x7, zx8] [vi 8, vi 0, vi (-1), vr 62] _ _
          exact wp_call (k := 198) (ρ2 := 0) (L2 := [vr 62, vi (-1), vi 0, vi 8, vu, vu]) rfl rfl rfl (Nat.lt_of_le_of_lt (Nat.le_of_ble_eq_true rfl) hρ) (Nat.le_of_ble_eq_true rfl) (Nat.le_of_ble_eq_true rfl) (rcv_V rfl (congrArg Prod.fst (kf_62 X.1))) rfl H
        · replace H := H.2 c5
          refine wp_iload rfl rfl ?_
          refine wp_aload rfl rfl ?_
          refine wp_getI (j := 6) rfl (congrArg Prod.fst (kf_37 X.1)) rfl ?_
          refine wp_icgeF (tn := 16) rfl rfl c1 ?_
          refine wp_iconst rfl ?_
          refine wp_goto (tn := 17) rfl rfl ?_
          refine wp_zret rfl rfl (by decide) ?_
          show Wp X _ 190 5 [vr 37, vi x7] [vi 1] _ _
          refine wp_ifeqF (tn := 17) rfl rfl (by decide) ?_
          refine wp_aload rfl rfl ?_
          refine wp_getR (r := 37) rfl (congrArg Prod.fst (kf_37 X.1)) rfl ?_
          refine wp_iload rfl rfl ?_
          have g6 := H.1
          replace H := H.2
          refine wp_iaload rfl (kf_38 X.1) g6 ?_
          refine wp_goto (tn := 18) rfl rfl ?_
          refine wp_iret rfl rfl ?_
          show Wp X _ 185 99 [vr 61, vr 45, vi x2, vi x3, vi x4, zx5, vi x6, vi x7, zx8] [vi (h 38 x7), vr 62] _ _
          refine wp_aload rfl rfl ?_
          refine wp_getR (r := 36) rfl (congrArg Prod.fst (kf_61 X.1)) rfl ?_
          refine wp_iload rfl rfl ?_
          refine wp_call (k := 191) (ρ2 := 1) (L2 := [vr 37, vi x7]) rfl rfl rfl (Nat.lt_of_le_of_lt (Nat.le_of_ble_eq_true rfl) hρ) (Nat.le_of_ble_eq_true rfl) (Nat.le_of_ble_eq_true rfl) (rcv_V rfl (congrArg Prod.fst (kf_37 X.1))) rfl ?_
          refine wp_aload rfl rfl ?_
          refine wp_iload rfl rfl ?_
          refine wp_call (k := 189) (ρ2 := 0) (L2 := [vr 37, vi x7]) rfl rfl rfl (Nat.le_of_ble_eq_true rfl) (Nat.le_of_ble_eq_true rfl) (Nat.le_of_ble_eq_true rfl) (rcv_V rfl (congrArg Prod.fst (kf_37 X.1))) rfl ?_
          refine wp_iload rfl rfl ?_
          refine wp_ifltF (tn := 16) rfl rfl g6.1 ?_
          refine wp_iload rfl rfl ?_
          refine wp_aload rfl rfl ?_
          refine wp_getI (j := 6) rfl (congrArg Prod.fst (kf_37 X.1)) rfl ?_
          refine wp_icgeF (tn := 16) rfl rfl c1 ?_
          refine wp_iconst rfl ?_
          refine wp_goto (tn := 17) rfl rfl ?_
          refine wp_zret rfl rfl (by decide) ?_
          show Wp X _ 191 5 [vr 37, vi x7] [vi 1] _ _
          refine wp_ifeqF (tn := 17) rfl rfl (by decide) ?_
          refine wp_aload rfl rfl ?_
          refine wp_getR (r := 38) rfl (congrArg Prod.fst (kf_37 X.1)) rfl ?_
          refine wp_iload rfl rfl ?_
          refine wp_iaload rfl (kf_39 X.1) ⟨g6.1, g6.2⟩ ?_
          refine wp_goto (tn := 18) rfl rfl ?_
          refine wp_iret rfl rfl ?_
          show Wp X _ 185 108 [vr 61, vr 45, vi x2, vi x3, vi x4, zx5, vi x6, vi x7, zx8] [vi (h 39 x7), vi (h 38 x7), vr 62] _ _
          refine wp_aload rfl rfl ?_
          refine wp_getR (r := 36) rfl (congrArg Prod.fst (kf_61 X.1)) rfl ?_
          refine wp_iload rfl rfl ?_
          refine wp_call (k := 192) (ρ2 := 1) (L2 := [vr 37, vi x7]) rfl rfl rfl (Nat.lt_of_le_of_lt (Nat.le_of_ble_eq_true rfl) hρ) (Nat.le_of_ble_eq_true rfl) (Nat.le_of_ble_eq_true rfl) (rcv_V rfl (congrArg Prod.fst (kf_37 X.1))) rfl ?_
          refine wp_aload rfl rfl ?_
          refine wp_iload rfl rfl ?_
          refine wp_call (k := 189) (ρ2 := 0) (L2 := [vr 37, vi x7]) rfl rfl rfl (Nat.le_of_ble_eq_true rfl) (Nat.le_of_ble_eq_true rfl) (Nat.le_of_ble_eq_true rfl) (rcv_V rfl (congrArg Prod.fst (kf_37 X.1))) rfl ?_
          refine wp_iload rfl rfl ?_
          refine wp_ifltF (tn := 16) rfl rfl g6.1 ?_
          refine wp_iload rfl rfl ?_
          refine wp_aload rfl rfl ?_
          refine wp_getI (j := 6) rfl (congrArg Prod.fst (kf_37 X.1)) rfl ?_
          refine wp_icgeF (tn := 16) rfl rfl c1 ?_
          refine wp_iconst rfl ?_
          refine wp_goto (tn := 17) rfl rfl ?_
          refine wp_zret rfl rfl (by decide) ?_
          show Wp X _ 192 5 [vr 37, vi x7] [vi 1] _ _
          refine wp_ifeqF (tn := 17) rfl rfl (by decide) ?_
          refine wp_aload rfl rfl ?_
          refine wp_getR (r := 39) rfl (congrArg Prod.fst (kf_37 X.1)) rfl ?_
          refine wp_iload rfl rfl ?_
          refine wp_iaload rfl (kf_40 X.1) ⟨g6.1, g6.2⟩ ?_
          refine wp_goto (tn := 19) rfl rfl ?_
          refine wp_iret rfl rfl ?_
          show Wp X _ 185 117 [vr 61, vr 45, vi x2, vi x3, vi x4, zx5, vi x6, vi x7, zx8] [vi (h 40 x7), vi (h 39 x7), vi (h 38 x7), vr 62] _ _
          exact wp_call (k := 198) (ρ2 := 0) (L2 := [vr 62, vi (h 38 x7), vi (h 39 x7), vi (h 40 x7), vu, vu]) rfl rfl rfl (Nat.lt_of_le_of_lt (Nat.le_of_ble_eq_true rfl) hρ) (Nat.le_of_ble_eq_true rfl) (Nat.le_of_ble_eq_true rfl) (rcv_V rfl (congrArg Prod.fst (kf_62 X.1))) rfl H
      · replace H := H.2 c4
        refine wp_iload rfl rfl ?_
        refine wp_aload rfl rfl ?_
        refine wp_getI (j := 6) rfl (congrArg Prod.fst (kf_62 X.1)) rfl ?_
        refine wp_icge (tn := 17) rfl rfl (fun c7 => ?_) (fun c7 => ?_)
        · replace H := H.1 c7
          refine wp_vret rfl rfl ?_
          show Wp X _ 185 86 [vr 61, vr 45, vi x2, vi x3, vi x4, zx5, vi x6, vi x7, zx8] [] _ _
          refine wp_aload rfl rfl ?_
          refine wp_getR (r := 61) rfl (congrArg Prod.fst (kf_61 X.1)) rfl ?_
          refine wp_aload rfl rfl ?_
          refine wp_getR (r := 36) rfl (congrArg Prod.fst (kf_61 X.1)) rfl ?_
          refine wp_iload rfl rfl ?_
          refine wp_call (k := 190) (ρ2 := 1) (L2 := [vr 37, vi x7]) rfl rfl rfl (Nat.lt_of_le_of_lt (Nat.le_of_ble_eq_true rfl) hρ) (Nat.le_of_ble_eq_true rfl) (Nat.le_of_ble_eq_true rfl) (rcv_V rfl (congrArg Prod.fst (kf_37 X.1))) rfl ?_
          refine wp_aload rfl rfl ?_
          refine wp_iload rfl rfl ?_
          refine wp_call (k := 189) (ρ2 := 0) (L2 := [vr 37, vi x7]) rfl rfl rfl (Nat.le_of_ble_eq_true rfl) (Nat.le_of_ble_eq_true rfl) (Nat.le_of_ble_eq_true rfl) (rcv_V rfl (congrArg Prod.fst (kf_37 X.1))) rfl ?_
          refine wp_iload rfl rfl ?_
          refine wp_iflt (tn := 16) rfl rfl (fun c8 => ?_) (fun c8 => ?_)
          · replace H := H.1 c8
            refine wp_iconst rfl ?_
            refine wp_zret rfl rfl (by decide) ?_
            show Wp X _ 190 5 [vr 37, vi x7] [vi 0] _ _
            refine wp_ifeqT (tn := 17) rfl rfl (by decide) ?_
            refine wp_iconst rfl ?_
            refine wp_iret rfl rfl ?_
            show Wp X _ 185 99 [vr 61, vr 45, vi x2, vi x3, vi x4, zx5, vi x6, vi x7, zx8] [vi (-1), vr 62] _ _
            refine wp_aload rfl rfl ?_
            refine wp_getR (r := 36) rfl (congrArg Prod.fst (kf_61 X.1)) rfl ?_
            refine wp_iload rfl rfl ?_
            refine wp_call (k := 191) (ρ2 := 1) (L2 := [vr 37, vi x7]) rfl rfl rfl (Nat.lt_of_le_of_lt (Nat.le_of_ble_eq_true rfl) hρ) (Nat.le_of_ble_eq_true rfl) (Nat.le_of_ble_eq_true rfl) (rcv_V rfl (congrArg Prod.fst (kf_37 X.1))) rfl ?_
            refine wp_aload rfl rfl ?_
            refine wp_iload rfl rfl ?_
            refine wp_call (k := 189) (ρ2 := 0) (L2 := [vr 37, vi x7]) rfl rfl rfl (Nat.le_of_ble_eq_true rfl) (Nat.le_of_ble_eq_true rfl) (Nat.le_of_ble_eq_true rfl) (rcv_V rfl (congrArg Prod.fst (kf_37 X.1))) rfl ?_
            refine wp_iload rfl rfl ?_
            refine wp_ifltT (tn := 16) rfl rfl c8 ?_
            refine wp_iconst rfl ?_
            refine wp_zret rfl rfl (by decide) ?_
            show Wp X _ 191 5 [vr 37, vi x7] [vi 0] _ _
            refine wp_ifeqT (tn := 17) rfl rfl (by decide) ?_
            refine wp_iconst rfl ?_
            refine wp_iret rfl rfl ?_
            show Wp X _ 185 108 [vr 61, vr 45, vi x2, vi x3, vi x4, zx5, vi x6, vi x7, zx8] [vi 0, vi (-1), vr 62] _ _
            refine wp_aload rfl rfl ?_
            refine wp_getR (r := 36) rfl (congrArg Prod.fst (kf_61 X.1)) rfl ?_
            refine wp_iload rfl rfl ?_
            refine wp_call (k := 192) (ρ2 := 1) (L2 := [vr 37, vi x7]) rfl rfl rfl (Nat.lt_of_le_of_lt (Nat.le_of_ble_eq_true rfl) hρ) (Nat.le_of_ble_eq_true rfl) (Nat.le_of_ble_eq_true rfl) (rcv_V rfl (congrArg Prod.fst (kf_37 X.1))) rfl ?_
            refine wp_aload rfl rfl ?_
            refine wp_iload rfl rfl ?_
            refine wp_call (k := 189) (ρ2 := 0) (L2 := [vr 37, vi x7]) rfl rfl rfl (Nat.le_of_ble_eq_true rfl) (Nat.le_of_ble_eq_true rfl) (Nat.le_of_ble_eq_true rfl) (rcv_V rfl (congrArg Prod.fst (kf_37 X.1))) rfl ?_
            refine wp_iload rfl rfl ?_
            refine wp_ifltT (tn := 16) rfl rfl c8 ?_
            refine wp_iconst rfl ?_
            refine wp_zret rfl rfl (by decide) ?_
            show Wp X _ 192 5 [vr 37, vi x7] [vi 0] _ _
            refine wp_ifeqT (tn := 17) rfl rfl (by decide) ?_
            refine wp_iconst rfl ?_
            refine wp_iret rfl rfl ?_
            show Wp X _ 185 117 [vr 61, vr 45, vi x2, vi x3, vi x4, zx5, vi x6, vi x7, zx8] [vi 8, vi 0, vi (-1), vr 62] _ _
            exact wp_call (k := 198) (ρ2 := 0) (L2 := [vr 62, vi (-1), vi 0, vi 8, vu, vu]) rfl rfl rfl (Nat.lt_of_le_of_lt (Nat.le_of_ble_eq_true rfl) hρ) (Nat.le_of_ble_eq_true rfl) (Nat.le_of_ble_eq_true rfl) (rcv_V rfl (congrArg Prod.fst (kf_62 X.1))) rfl H
          · replace H := H.2 c8
            refine wp_iload rfl rfl ?_
            refine wp_aload rfl rfl ?_
            refine wp_getI (j := 6) rfl (congrArg Prod.fst (kf_37 X.1)) rfl ?_
            refine wp_icgeF (tn := 16) rfl rfl c1 ?_
            refine wp_iconst rfl ?_
            refine wp_goto (tn := 17) rfl rfl ?_
            refine wp_zret rfl rfl (by decide) ?_
            show Wp X _ 190 5 [vr 37, vi x7] [vi 1] _ _
            refine wp_ifeqF (tn := 17) rfl rfl (by decide) ?_
            refine wp_aload rfl rfl ?_
            refine wp_getR (r := 37) rfl (congrArg Prod.fst (kf_37 X.1)) rfl ?_
            refine wp_iload rfl rfl ?_
            have g9 := H.1
            replace H := H.2
            refine wp_iaload rfl (kf_38 X.1) g9 ?_
            refine wp_goto (tn := 18) rfl rfl ?_
            refine wp_iret rfl rfl ?_
            show Wp X _ 185 99 [vr 61, vr 45, vi x2, vi x3, vi x4, zx5, vi x6, vi x7, zx8] [vi (h 38 x7), vr 62] _ _
            refine wp_aload rfl rfl ?_
            refine wp_getR (r := 36) rfl (congrArg Prod.fst (kf_61 X.1)) rfl ?_
            refine wp_iload rfl rfl ?_
            refine wp_call (k := 191) (ρ2 := 1) (L2 := [vr 37, vi x7]) rfl rfl rfl (Nat.lt_of_le_of_lt (Nat.le_of_ble_eq_true rfl) hρ) (Nat.le_of_ble_eq_true rfl) (Nat.le_of_ble_eq_true rfl) (rcv_V rfl (congrArg Prod.fst (kf_37 X.1))) rfl ?_
            refine wp_aload rfl rfl ?_
            refine wp_iload rfl rfl ?_
            refine wp_call (k := 189) (ρ2 := 0) (L2 := [vr 37, vi x7]) rfl rfl rfl (Nat.le_of_ble_eq_true rfl) (Nat.le_of_ble_eq_true rfl) (Nat.le_of_ble_eq_true rfl) (rcv_V rfl (congrArg Prod.fst (kf_37 X.1))) rfl ?_
            refine wp_iload rfl rfl ?_
            refine wp_ifltF (tn := 16) rfl rfl g9.1 ?_
            refine wp_iload rfl rfl ?_
            refine wp_aload rfl rfl ?_
            refine wp_getI (j := 6) rfl (congrArg Prod.fst (kf_37 X.1)) rfl ?_
            refine wp_icgeF (tn := 16) rfl rfl c1 ?_
            refine wp_iconst rfl ?_
            refine wp_goto (tn := 17) rfl rfl ?_
            refine wp_zret rfl rfl (by decide) ?_
            show Wp X _ 191 5 [vr 37, vi x7] [vi 1] _ _
            refine wp_ifeqF (tn := 17) rfl rfl (by decide) ?_
            refine wp_aload rfl rfl ?_
            refine wp_getR (r := 38) rfl (congrArg Prod.fst (kf_37 X.1)) rfl ?_
            refine wp_iload rfl rfl ?_
            refine wp_iaload rfl (kf_39 X.1) ⟨g9.1, g9.2⟩ ?_
            refine wp_goto (tn := 18) rfl rfl ?_
            refine wp_iret rfl rfl ?_
            show Wp X _ 185 108 [vr 61, vr 45, vi x2, vi x3, vi x4, zx5, vi x6, vi x7, zx8] [vi (h 39 x7), vi (h 38 x7), vr 62] _ _
            refine wp_aload rfl rfl ?_
            refine wp_getR (r := 36) rfl (congrArg Prod.fst (kf_61 X.1)) rfl ?_
            refine wp_iload rfl rfl ?_
            refine wp_call (k := 192) (ρ2 := 1) (L2 := [vr 37, vi x7]) rfl rfl rfl (Nat.lt_of_le_of_lt (Nat.le_of_ble_eq_true rfl) hρ) (Nat.le_of_ble_eq_true rfl) (Nat.le_of_ble_eq_true rfl) (rcv_V rfl (congrArg Prod.fst (kf_37 X.1))) rfl ?_
            refine wp_aload rfl rfl ?_
            refine wp_iload rfl rfl ?_
            refine wp_call (k := 189) (ρ2 := 0) (L2 := [vr 37, vi x7]) rfl rfl rfl (Nat.le_of_ble_eq_true rfl) (Nat.le_of_ble_eq_true rfl) (Nat.le_of_ble_eq_true rfl) (rcv_V rfl (congrArg Prod.fst (kf_37 X.1))) rfl ?_
            refine wp_iload rfl rfl ?_
            refine wp_ifltF (tn := 16) rfl rfl g9.1 ?_
            refine wp_iload rfl rfl ?_
            refine wp_aload rfl rfl ?_
            refine wp_getI (j := 6) rfl (congrArg Prod.fst (kf_37 X.1)) rfl ?_
            refine wp_icgeF (tn := 16) rfl rfl c1 ?_
            refine wp_iconst rfl ?_
            refine wp_goto (tn := 17) rfl rfl ?_
            refine wp_zret rfl rfl (by decide) ?_
            show Wp X _ 192 5 [vr 37, vi x7] [vi 1] _ _
            refine wp_ifeqF (tn := 17) rfl rfl (by decide) ?_
            refine wp_aload rfl rfl ?_
            refine wp_getR (r := 39) rfl (congrArg Prod.fst (kf_37 X.1)) rfl ?_
            refine wp_iload rfl rfl ?_
            refine wp_iaload rfl (kf_40 X.1) ⟨g9.1, g9.2⟩ ?_
            refine wp_goto (tn := 19) rfl rfl ?_
            refine wp_iret rfl rfl ?_
            show Wp X _ 185 117 [vr 61, vr 45, vi x2, vi x3, vi x4, zx5, vi x6, vi x7, zx8] [vi (h 40 x7), vi (h 39 x7), vi (h 38 x7), vr 62] _ _
            exact wp_call (k := 198) (ρ2 := 0) (L2 := [vr 62, vi (h 38 x7), vi (h 39 x7), vi (h 40 x7), vu, vu]) rfl rfl rfl (Nat.lt_of_le_of_lt (Nat.le_of_ble_eq_true rfl) hρ) (Nat.le_of_ble_eq_true rfl) (Nat.le_of_ble_eq_true rfl) (rcv_V rfl (congrArg Prod.fst (kf_62 X.1))) rfl H
        · replace H := H.2 c7
          refine wp_aload rfl rfl ?_
          refine wp_iload rfl rfl ?_
          refine wp_putI (j := 6) rfl (congrArg Prod.fst (kf_62 X.1)) rfl rfl rfl ?_
          refine wp_vret rfl rfl ?_
          show Wp X _ 185 86 [vr 61, vr 45, vi x2, vi x3, vi x4, zx5, vi x6, vi x7, zx8] [] _ _
          refine wp_aload rfl rfl ?_
          refine wp_getR (r := 61) rfl (congrArg Prod.fst (kf_61 X.1)) rfl ?_
          refine wp_aload rfl rfl ?_
          refine wp_getR (r := 36) rfl (congrArg Prod.fst (kf_61 X.1)) rfl ?_
          refine wp_iload rfl rfl ?_
          refine wp_call (k := 190) (ρ2 := 1) (L2 := [vr 37, vi x7]) rfl rfl rfl (Nat.lt_of_le_of_lt (Nat.le_of_ble_eq_true rfl) hρ) (Nat.le_of_ble_eq_true rfl) (Nat.le_of_ble_eq_true rfl) (rcv_V rfl (congrArg Prod.fst (kf_37 X.1))) rfl ?_
          refine wp_aload rfl rfl ?_
          refine wp_iload rfl rfl ?_
          refine wp_call (k := 189) (ρ2 := 0) (L2 := [vr 37, vi x7]) rfl rfl rfl (Nat.le_of_ble_eq_true rfl) (Nat.le_of_ble_eq_true rfl) (Nat.le_of_ble_eq_true rfl) (rcv_V rfl (congrArg Prod.fst (kf_37 X.1))) rfl ?_
          refine wp_iload rfl rfl ?_
          refine wp_iflt (tn := 16) rfl rfl (fun c10 => ?_) (fun c10 => ?_)
          · replace H := H.1 c10
            refine wp_iconst rfl ?_
            refine wp_zret rfl rfl (by decide) ?_
            show Wp X _ 190 5 [vr 37, vi x7] [vi 0] _ _
            refine wp_ifeqT (tn := 17) rfl rfl (by decide) ?_
            refine wp_iconst rfl ?_
            refine wp_iret rfl rfl ?_
            show Wp X _ 185 99 [vr 61, vr 45, vi x2, vi x3, vi x4, zx5, vi x6, vi x7, zx8] [vi (-1), vr 62] _ _
            refine wp_aload rfl rfl ?_
            refine wp_getR (r := 36) rfl (congrArg Prod.fst (kf_61 X.1)) rfl ?_
            refine wp_iload rfl rfl ?_
            refine wp_call (k := 191) (ρ2 := 1) (L2 := [vr 37, vi x7]) rfl rfl rfl (Nat.lt_of_le_of_lt (Nat.le_of_ble_eq_true rfl) hρ) (Nat.le_of_ble_eq_true rfl) (Nat.le_of_ble_eq_true rfl) (rcv_V rfl (congrArg Prod.fst (kf_37 X.1))) rfl ?_
            refine wp_aload rfl rfl ?_
            refine wp_iload rfl rfl ?_
            refine wp_call (k := 189) (ρ2 := 0) (L2 := [vr 37, vi x7]) rfl rfl rfl (Nat.le_of_ble_eq_true rfl) (Nat.le_of_ble_eq_true rfl) (Nat.le_of_ble_eq_true rfl) (rcv_V rfl (congrArg Prod.fst (kf_37 X.1))) rfl ?_
            refine wp_iload rfl rfl ?_
            refine wp_ifltT (tn := 16) rfl rfl c10 ?_
            refine wp_iconst rfl ?_
            refine wp_zret rfl rfl (by decide) ?_
            show Wp X _ 191 5 [vr 37, vi x7] [vi 0] _ _
            refine wp_ifeqT (tn := 17) rfl rfl (by decide) ?_
            refine wp_iconst rfl ?_
            refine wp_iret rfl rfl ?_
            show Wp X _ 185 108 [vr 61, vr 45, vi x2, vi x3, vi x4, zx5, vi x6, vi x7, zx8] [vi 0, vi (-1), vr 62] _ _
            refine wp_aload rfl rfl ?_
            refine wp_getR (r := 36) rfl (congrArg Prod.fst (kf_61 X.1)) rfl ?_
            refine wp_iload rfl rfl ?_
            refine wp_call (k := 192) (ρ2 := 1) (L2 := [vr 37, vi x7]) rfl rfl rfl (Nat.lt_of_le_of_lt (Nat.le_of_ble_eq_true rfl) hρ) (Nat.le_of_ble_eq_true rfl) (Nat.le_of_ble_eq_true rfl) (rcv_V rfl (congrArg Prod.fst (kf_37 X.1))) rfl ?_
            refine wp_aload rfl rfl ?_
            refine wp_iload rfl rfl ?_
            refine wp_call (k := 189) (ρ2 := 0) (L2 := [vr 37, vi x7]) rfl rfl rfl (Nat.le_of_ble_eq_true rfl) (Nat.le_of_ble_eq_true rfl) (Nat.le_of_ble_eq_true rfl) (rcv_V rfl (congrArg Prod.fst (kf_37 X.1))) rfl ?_
            refine wp_iload rfl rfl ?_
            refine wp_ifltT (tn := 16) rfl rfl c10 ?_
            refine wp_iconst rfl ?_
            refine wp_zret rfl rfl (by decide) ?_
            show Wp X _ 192 5 [vr 37, vi x7] [vi 0] _ _
            refine wp_ifeqT (tn := 17) rfl rfl (by decide) ?_
            refine wp_iconst rfl ?_
            refine wp_iret rfl rfl ?_
            show Wp X _ 185 117 [vr 61, vr 45, vi x2, vi x3, vi x4, zx5, vi x6, vi x7, zx8] [vi 8, vi 0, vi (-1), vr 62] _ _
            exact wp_call (k := 198) (ρ2 := 0) (L2 := [vr 62, vi (-1), vi 0, vi 8, vu, vu]) rfl rfl rfl (Nat.lt_of_le_of_lt (Nat.le_of_ble_eq_true rfl) hρ) (Nat.le_of_ble_eq_true rfl) (Nat.le_of_ble_eq_true rfl) (rcv_V rfl (congrArg Prod.fst (kf_62 X.1))) rfl H
          · replace H := H.2 c10
            refine wp_iload rfl rfl ?_
            refine wp_aload rfl rfl ?_
            refine wp_getI (j := 6) rfl (congrArg Prod.fst (kf_37 X.1)) rfl ?_
            refine Wp.topI (y := (h 37 6)) (congrFun (upd2_ne (by decide)) _) ?_
            refine wp_icgeF (tn := 16) rfl rfl c1 ?_
            refine wp_iconst rfl ?_
            refine wp_goto (tn := 17) rfl rfl ?_
            refine wp_zret rfl rfl (by decide) ?_
            show Wp X _ 190 5 [vr 37, vi x7] [vi 1] _ _
            refine wp_ifeqF (tn := 17) rfl rfl (by decide) ?_
            refine wp_aload rfl rfl ?_
            refine wp_getR (r := 37) rfl (congrArg Prod.fst (kf_37 X.1)) rfl ?_
            refine wp_iload rfl rfl ?_
            have g11 := H.1
            replace H := H.2
            refine wp_iaload rfl (kf_38 X.1) g11 ?_
            refine Wp.topI (y := (h 38 x7)) (congrFun (upd2_ne (by decide)) _) ?_
            refine wp_goto (tn := 18) rfl rfl ?_
            refine wp_iret rfl rfl ?_
            show Wp X _ 185 99 [vr 61, vr 45, vi x2, vi x3, vi x4, zx5, vi x6, vi x7, zx8] [vi (h 38 x7), vr 62] _ _
            refine wp_aload rfl rfl ?_
            refine wp_getR (r := 36) rfl (congrArg Prod.fst (kf_61 X.1)) rfl ?_
            refine wp_iload rfl rfl ?_
            refine wp_call (k := 191) (ρ2 := 1) (L2 := [vr 37, vi x7]) rfl rfl rfl (Nat.lt_of_le_of_lt (Nat.le_of_ble_eq_true rfl) hρ) (Nat.le_of_ble_eq_true rfl) (Nat.le_of_ble_eq_true rfl) (rcv_V rfl (congrArg Prod.fst (kf_37 X.1))) rfl ?_
            refine wp_aload rfl rfl ?_
            refine wp_iload rfl rfl ?_
            refine wp_call (k := 189) (ρ2 := 0) (L2 := [vr 37, vi x7]) rfl rfl rfl (Nat.le_of_ble_eq_true rfl) (Nat.le_of_ble_eq_true rfl) (Nat.le_of_ble_eq_true rfl) (rcv_V rfl (congrArg Prod.fst (kf_37 X.1))) rfl ?_
            refine wp_iload rfl rfl ?_
            refine wp_ifltF (tn := 16) rfl rfl g11.1 ?_
            refine wp_iload rfl rfl ?_
            refine wp_aload rfl rfl ?_
            refine wp_getI (j := 6) rfl (congrArg Prod.fst (kf_37 X.1)) rfl ?_
            refine Wp.topI (y := (h 37 6)) (congrFun (upd2_ne (by decide)) _) ?_
            refine wp_icgeF (tn := 16) rfl rfl c1 ?_
            refine wp_iconst rfl ?_
            refine wp_goto (tn := 17) rfl rfl ?_
            refine wp_zret rfl rfl (by decide) ?_
            show Wp X _ 191 5 [vr 37, vi x7] [vi 1] _ _
            refine wp_ifeqF (tn := 17) rfl rfl (by decide) ?_
            refine wp_aload rfl rfl ?_
            refine wp_getR (r := 38) rfl (congrArg Prod.fst (kf_37 X.1)) rfl ?_
            refine wp_iload rfl rfl ?_
            refine wp_iaload rfl (kf_39 X.1) ⟨g11.1, g11.2⟩ ?_
            refine Wp.topI (y := (h 39 x7)) (congrFun (upd2_ne (by decide)) _) ?_
            refine wp_goto (tn := 18) rfl rfl ?_
            refine wp_iret rfl rfl ?_
            show Wp X _ 185 108 [vr 61, vr 45, vi x2, vi x3, vi x4, zx5, vi x6, vi x7, zx8] [vi (h 39 x7), vi (h 38 x7), vr 62] _ _
            refine wp_aload rfl rfl ?_
            refine wp_getR (r := 36) rfl (congrArg Prod.fst (kf_61 X.1)) rfl ?_
            refine wp_iload rfl rfl ?_
            refine wp_call (k := 192) (ρ2 := 1) (L2 := [vr 37, vi x7]) rfl rfl rfl (Nat.lt_of_le_of_lt (Nat.le_of_ble_eq_true rfl) hρ) (Nat.le_of_ble_eq_true rfl) (Nat.le_of_ble_eq_true rfl) (rcv_V rfl (congrArg Prod.fst (kf_37 X.1))) rfl ?_
            refine wp_aload rfl rfl ?_
            refine wp_iload rfl rfl ?_
            refine wp_call (k := 189) (ρ2 := 0) (L2 := [vr 37, vi x7]) rfl rfl rfl (Nat.le_of_ble_eq_true rfl) (Nat.le_of_ble_eq_true rfl) (Nat.le_of_ble_eq_true rfl) (rcv_V rfl (congrArg Prod.fst (kf_37 X.1))) rfl ?_
            refine wp_iload rfl rfl ?_
            refine wp_ifltF (tn := 16) rfl rfl g11.1 ?_
            refine wp_iload rfl rfl ?_
            refine wp_aload rfl rfl ?_
            refine wp_getI (j := 6) rfl (congrArg Prod.fst (kf_37 X.1)) rfl ?_
            refine Wp.topI (y := (h 37 6)) (congrFun (upd2_ne (by decide)) _) ?_
            refine wp_icgeF (tn := 16) rfl rfl c1 ?_
            refine wp_iconst rfl ?_
            refine wp_goto (tn := 17) rfl rfl ?_
            refine wp_zret rfl rfl (by decide) ?_
            show Wp X _ 192 5 [vr 37, vi x7] [vi 1] _ _
            refine wp_ifeqF (tn := 17) rfl rfl (by decide) ?_
            refine wp_aload rfl rfl ?_
            refine wp_getR (r := 39) rfl (congrArg Prod.fst (kf_37 X.1)) rfl ?_
            refine wp_iload rfl rfl ?_
            refine wp_iaload rfl (kf_40 X.1) ⟨g11.1, g11.2⟩ ?_
            refine Wp.topI (y := (h 40 x7)) (congrFun (upd2_ne (by decide)) _) ?_
            refine wp_goto (tn := 19) rfl rfl ?_
            refine wp_iret rfl rfl ?_
            show Wp X _ 185 117 [vr 61, vr 45, vi x2, vi x3, vi x4, zx5, vi x6, vi x7, zx8] [vi (h 40 x7), vi (h 39 x7), vi (h 38 x7), vr 62] _ _
            exact wp_call (k := 198) (ρ2 := 0) (L2 := [vr 62, vi (h 38 x7), vi (h 39 x7), vi (h 40 x7), vu, vu]) rfl rfl rfl (Nat.lt_of_le_of_lt (Nat.le_of_ble_eq_true rfl) hρ) (Nat.le_of_ble_eq_true rfl) (Nat.le_of_ble_eq_true rfl) (rcv_V rfl (congrArg Prod.fst (kf_62 X.1))) rfl H
/-- Orders.enoughWarn(L$Orders;L$RuleText;III)I, from 120 -/
theorem S185_61_45_120 {X : Nat × (Int → Int)} {h : HP} {Q : bQ} {ρ : Nat} (hρ : 4 < ρ) (x2 : Int) (x3 : Int) (x4 : Int) (zx5 : aV) (x6 : Int) (x7 : Int) (zx8 : aV) (H : Wp X 3 208 0 [vr 45, vr 62, vi x2] [] h (fun v h' => Wp X ρ 185 129 [vr 61, vr 45, vi x2, vi x3, vi x4, zx5, vi x6, vi x7, zx8] (psh v []) h' Q)) : Wp X ρ 185 120 [vr 61, vr 45, vi x2, vi x3, vi x4, zx5, vi x6, vi x7, zx8] [] h Q := by
  refine wp_aload rfl rfl ?_
  refine wp_aload rfl rfl ?_
  refine wp_getR (r := 61) rfl (congrArg Prod.fst (kf_61 X.1)) rfl ?_
  refine wp_iload rfl rfl ?_
  exact wp_call (k := 208) (ρ2 := 3) (L2 := [vr 45, vr 62, vi x2]) rfl rfl rfl (Nat.lt_of_le_of_lt (Nat.le_of_ble_eq_true rfl) hρ) (Nat.le_of_ble_eq_true rfl) (Nat.le_of_ble_eq_true rfl) (rcv_V rfl (congrArg Prod.fst (kf_45 X.1))) rfl H
/-- Orders.enoughWarn(L$Orders;L$RuleText;III)I, from 129 -/
theorem S185_61_45_129 {X : Nat × (Int → Int)} {h : HP} {Q : bQ} {ρ : Nat} (hρ : 4 < ρ) (x2 : Int) (x3 : Int) (x4 : Int) (zx5 : aV) (x6 : Int) (x7 : Int) (zx8 : aV) (s0 : Int) (H : ((s0 = 0 → ((R32 (x2 + 1)) ∧ ((R32 (x4 + 0)) ∧ (((4 + Int.toNat (8 - (x2 + 1))) < ρ) ∧ Wp X (4 + Int.toNat (8 - (x2 + 1))) 185 0 [vr 61, vr 45, vi (x2 + 1), vi ((i32 x3 ||| i32 ((i32 1 <<< (i32 x7 &&& 31)).toInt)).toInt), vi (x4 + 0), vu, vu, vu, vu] [] h (fun v h' => Wp X ρ 185 160 [vr 61, vr 45, vi x2, vi x3, vi x4, zx5, vi x6, vi x7, vi 0] (psh v [vi x6]) h' Q))))) ∧ (s0 ≠ 0 → ((R32 (x2 + 1)) ∧ ((R32 (x4 + 1)) ∧ (((4 + Int.toNat (8 - (x2 + 1))) < ρ) ∧ Wp X (4 + Int.toNat (8 - (x2 + 1))) 185 0 [vr 61, vr 45, vi (x2 + 1), vi ((i32 x3 ||| i32 ((i32 1 <<< (i32 x7 &&& 31)).toInt)).toInt), vi (x4 + 1), vu, vu, vu, vu] [] h (fun v h' => Wp X ρ 185 160 [vr 61, vr 45, vi x2, vi x3, vi x4, zx5, vi x6, vi x7, vi 1] (psh v [vi x6]) h' Q))))))) : Wp X ρ 185 129 [vr 61, vr 45, vi x2, vi x3, vi x4, zx5, vi x6, vi x7, zx8] [vi s0] h Q := by
  refine wp_ifeq (tn := 136) rfl rfl (fun c1 => ?_) (fun c1 => ?_)
  · replace H := H.1 c1
    refine wp_iconst rfl ?_
    refine wp_istore (L2 := [vr 61, vr 45, vi x2, vi x3, vi x4, zx5, vi x6, vi x7, vi 0]) rfl (Nat.le_of_ble_eq_true rfl) rfl ?_
    refine wp_iload rfl rfl ?_
    refine wp_aload rfl rfl ?_
    refine wp_aload rfl rfl ?_
    refine wp_iload rfl rfl ?_
    refine wp_iconst rfl ?_
    refine wp_iadd rfl ?_
    have g2 := H.1
    replace H := H.2
    refine Wp.topI (y := (x2 + 1)) (w32_I g2) ?_
    refine wp_iload rfl rfl ?_
    refine wp_iconst rfl ?_
    refine wp_iload rfl rfl ?_
    refine wp_ishl rfl ?_
    refine wp_ior rfl ?_
    refine wp_iload rfl rfl ?_
    refine wp_iload rfl rfl ?_
    refine wp_iadd rfl ?_
    have g3 := H.1
    replace H := H.2
    refine Wp.topI (y := (x4 + 0)) (w32_I g3) ?_
    have g4 := H.1
    replace H := H.2
    exact wp_call (k := 185) (ρ2 := (4 + Int.toNat (8 - (x2 + 1)))) (L2 := [vr 61, vr 45, vi (x2 + 1), vi ((i32 x3 ||| i32 ((i32 1 <<< (i32 x7 &&& 31)).toInt)).toInt), vi (x4 + 0), vu, vu, vu, vu]) rfl rfl rfl g4 (Nat.le_of_ble_eq_true rfl) (Nat.le_of_ble_eq_true rfl) (rcv_S rfl) rfl H
  · replace H := H.2 c1
    refine wp_iconst rfl ?_
    refine wp_goto (tn := 137) rfl rfl ?_
    refine wp_istore (L2 := [vr 61, vr 45, vi x2, vi x3, vi x4, zx5, vi x6, vi x7, vi 1]) rfl (Nat.le_of_ble_eq_true rfl) rfl ?_
    refine wp_iload rfl rfl ?_
    refine wp_aload rfl rfl ?_
    refine wp_aload rfl rfl ?_
    refine wp_iload rfl rfl ?_
    refine wp_iconst rfl ?_
    refine wp_iadd rfl ?_
    have g5 := H.1
    replace H := H.2
    refine Wp.topI (y := (x2 + 1)) (w32_I g5) ?_
    refine wp_iload rfl rfl ?_
    refine wp_iconst rfl ?_
    refine wp_iload rfl rfl ?_
    refine wp_ishl rfl ?_
    refine wp_ior rfl ?_
    refine wp_iload rfl rfl ?_
    refine wp_iload rfl rfl ?_
    refine wp_iadd rfl ?_
    have g6 := H.1
    replace H := H.2
    refine Wp.topI (y := (x4 + 1)) (w32_I g6) ?_
    have g7 := H.1
    replace H := H.2
    exact wp_call (k := 185) (ρ2 := (4 + Int.toNat (8 - (x2 + 1)))) (L2 := [vr 61, vr 45, vi (x2 + 1), vi ((i32 x3 ||| i32 ((i32 1 <<< (i32 x7 &&& 31)).toInt)).toInt), vi (x4 + 1), vu, vu, vu, vu]) rfl rfl rfl g7 (Nat.le_of_ble_eq_true rfl) (Nat.le_of_ble_eq_true rfl) (rcv_S rfl) rfl H
/-- Orders.enoughWarn(L$Orders;L$RuleText;III)I, from 160 -/
theorem S185_61_45_160 {X : Nat × (Int → Int)} {h : HP} {Q : bQ} {ρ : Nat} (hρ : 4 < ρ) (x2 : Int) (x3 : Int) (x4 : Int) (zx5 : aV) (zx6 : aV) (x7 : Int) (zx8 : aV) (s0 : Int) (s1 : Int) (H : ((R32 (s1 + s0)) ∧ ((R32 (x7 + 1)) ∧ Wp X ρ 185 57 [vr 61, vr 45, vi x2, vi x3, vi x4, (clr1 zx5), vi (s1 + s0), vi (x7 + 1), zx8] [] h Q))) : Wp X ρ 185 160 [vr 61, vr 45, vi x2, vi x3, vi x4, zx5, zx6, vi x7, zx8] [vi s0, vi s1] h Q := by
  refine wp_iadd rfl ?_
  have g1 := H.1
  replace H := H.2
  refine Wp.topI (y := (s1 + s0)) (w32_I g1) ?_
  refine wp_istore (L2 := [vr 61, vr 45, vi x2, vi x3, vi x4, (clr1 zx5), vi (s1 + s0), vi x7, zx8]) rfl (Nat.le_of_ble_eq_true rfl) rfl ?_
  have g2 := H.1
  replace H := H.2
  refine wp_iincR (L2 := [vr 61, vr 45, vi x2, vi x3, vi x4, (clr1 zx5), vi (s1 + s0), vi (x7 + 1), zx8]) rfl rfl g2 rfl ?_
  refine wp_goto (tn := 57) rfl rfl ?_
  exact H
/-- Orders.enoughWarn(L$Orders;L$RuleText;III)I, from 0 -/
theorem S185_61_53_0 {X : Nat × (Int → Int)} {h : HP} {Q : bQ} {ρ : Nat} (hρ : 4 < ρ) (x2 : Int) (x3 : Int) (x4 : Int) (H : ((R32 ((h 37 6) - x2)) ∧ ((x4 < (h 61 2) → ((((h 37 6) - x2) ≤ 0 → Q (some (vi 0)) h) ∧ (0 < ((h 37 6) - x2) → ((7 ≤ x2 → Q (some (vi 0)) h) ∧ (x2 < 7 → ((R32 (x4 + ((h 37 6) - x2))) ∧ (((h 61 2) ≤ (x4 + ((h 37 6) - x2)) → Wp X ρ 185 57 [vr 61, vr 53, vi x2, vi x3, vi x4, vi ((h 37 6) - x2), vi 0, vi 0, vu] [] h Q) ∧ ((x4 + ((h 37 6) - x2)) < (h 61 2) → Q (some (vi 0)) h)))))))) ∧ ((h 61 2) ≤ x4 → ((((h 37 6) - x2) < 0 → Q (some (vi 0)) h) ∧ (0 ≤ ((h 37 6) - x2) → ((8 ≤ ((h 37 6) - x2) → Q (some (vi 0)) h) ∧ (((h 37 6) - x2) < 8 → Q (some (vi (stV 4 ((h 37 6) - x2)))) h)))))))) : Wp X ρ 185 0 [vr 61, vr 53, vi x2, vi x3, vi x4, vu, vu, vu, vu] [] h Q := by
  refine wp_aload rfl rfl ?_
  refine wp_getR (r := 36) rfl (congrArg Prod.fst (kf_61 X.1)) rfl ?_
  refine wp_call (k := 188) (ρ2 := 0) (L2 := [vr 37]) rfl rfl rfl (Nat.lt_of_le_of_lt (Nat.le_of_ble_eq_true rfl) hρ) (Nat.le_of_ble_eq_true rfl) (Nat.le_of_ble_eq_true rfl) (rcv_V rfl (congrArg Prod.fst (kf_37 X.1))) rfl ?_
  refine wp_aload rfl rfl ?_
  refine wp_getI (j := 6) rfl (congrArg Prod.fst (kf_37 X.1)) rfl ?_
  refine wp_iret rfl rfl ?_
  show Wp X _ 185 7 [vr 61, vr 53, vi x2, vi x3, vi x4, vu, vu, vu, vu] [vi (h 37 6)] _ _
  refine wp_iload rfl rfl ?_
  refine wp_isub rfl ?_
  have g1 := H.1
  replace H := H.2
  refine Wp.topI (y := ((h 37 6) - x2)) (w32_I g1) ?_
  refine wp_istore (L2 := [vr 61, vr 53, vi x2, vi x3, vi x4, vi ((h 37 6) - x2), vu, vu, vu]) rfl (Nat.le_of_ble_eq_true rfl) rfl ?_
  refine wp_iload rfl rfl ?_
  refine wp_aload rfl rfl ?_
  refine wp_getI (j := 2) rfl (congrArg Prod.fst (kf_61 X.1)) rfl ?_
  refine wp_iclt (tn := 26) rfl rfl (fun c2 => ?_) (fun c2 => ?_)
  · replace H := H.1 c2
    refine wp_iload rfl rfl ?_
    refine wp_ifle (tn := 49) rfl rfl (fun c3 => ?_) (fun c3 => ?_)
    · replace H := H.1 c3
      refine wp_iconst rfl ?_
      exact wp_iret rfl rfl H
    · replace H := H.2 c3
      refine wp_iload rfl rfl ?_
      refine wp_iconst rfl ?_
      refine wp_icge (tn := 49) rfl rfl (fun c4 => ?_) (fun c4 => ?_)
      · replace H := H.1 c4
        refine wp_iconst rfl ?_
        exact wp_iret rfl rfl H
      · replace H := H.2 c4
        refine wp_iload rfl rfl ?_
        refine wp_iload rfl rfl ?_
        refine wp_iadd rfl ?_
        have g5 := H.1
        replace H := H.2
        refine Wp.topI (y := (x4 + ((h 37 6) - x2))) (w32_I g5) ?_
        refine wp_aload rfl rfl ?_
        refine wp_getI (j := 2) rfl (congrArg Prod.fst (kf_61 X.1)) rfl ?_
        refine wp_icge (tn := 51) rfl rfl (fun c6 => ?_) (fun c6 => ?_)
        · replace H := H.1 c6
          refine wp_iconst rfl ?_
          refine wp_istore (L2 := [vr 61, vr 53, vi x2, vi x3, vi x4, vi ((h 37 6) - x2), vi 0, vu, vu]) rfl (Nat.le_of_ble_eq_true rfl) rfl ?_
          refine wp_iconst rfl ?_
          refine wp_istore (L2 := [vr 61, vr 53, vi x2, vi x3, vi x4, vi ((h 37 6) - x2), vi 0, vi 0, vu]) rfl (Nat.le_of_ble_eq_true rfl) rfl ?_
          exact H
        · replace H := H.2 c6
          refine wp_iconst rfl ?_
          exact wp_iret rfl rfl H
  · replace H := H.2 c2
    refine wp_iload rfl rfl ?_
    refine wp_call (k := 186) (ρ2 := 0) (L2 := [vi ((h 37 6) - x2)]) rfl rfl rfl (Nat.lt_of_le_of_lt (Nat.le_of_ble_eq_true rfl) hρ) (Nat.le_of_ble_eq_true rfl) (Nat.le_of_ble_eq_true rfl) (rcv_S rfl) rfl ?_
    refine wp_iload rfl rfl ?_
    refine wp_iflt (tn := 20) rfl rfl (fun c7 => ?_) (fun c7 => ?_)
    · replace H := H.1 c7
      refine wp_iconst rfl ?_
      refine wp_iret rfl rfl ?_
      show Wp X _ 185 25 [vr 61, vr 53, vi x2, vi x3, vi x4, vi ((h 37 6) - x2), vu, vu, vu] [vi 0] _ _
      exact wp_iret rfl rfl H
    · replace H := H.2 c7
      refine wp_iload rfl rfl ?_
      refine wp_getstatic rfl ?_
      refine wp_alenK rfl (kf_4 X.1) ?_
      refine wp_icge (tn := 20) rfl rfl (fun c8 => ?_) (fun c8 => ?_)
      · replace H := H.1 c8
        refine wp_iconst rfl ?_
        refine wp_iret rfl rfl ?_
        show Wp X _ 185 25 [vr 61, vr 53, vi x2, vi x3, vi x4, vi ((h 37 6) - x2), vu, vu, vu] [vi 0] _ _
        exact wp_iret rfl rfl H
      · replace H := H.2 c8
        refine wp_getstatic rfl ?_
        refine wp_iload rfl rfl ?_
        refine wp_ialoadS rfl (kf_4 X.1) ⟨c7, c8⟩ (by decide) ?_
        refine wp_goto (tn := 21) rfl rfl ?_
        refine wp_iret rfl rfl ?_
        show Wp X _ 185 25 [vr 61, vr 53, vi x2, vi x3, vi x4, vi ((h 37 6) - x2), vu, vu, vu] [vi (stV 4 ((h 37 6) - x2))] _ _
        exact wp_iret rfl rfl H
/-- Orders.enoughWarn(L$Orders;L$RuleText;III)I, from 57 -/
theorem S185_61_53_57 {X : Nat × (Int → Int)} {h : HP} {Q : bQ} {ρ : Nat} (hρ : 4 < ρ) (x2 : Int) (x3 : Int) (x4 : Int) (zx5 : aV) (x6 : Int) (x7 : Int) (zx8 : aV) (H : (((h 37 6) ≤ x7 → Q (some (vi x6)) h) ∧ (x7 < (h 37 6) → ((((i32 ((i32 x3 >>> (i32 x7 &&& 31)).toInt) &&& i32 1).toInt) ≠ 0 → ((R32 (x7 + 1)) ∧ Wp X ρ 185 57 [vr 61, vr 53, vi x2, vi x3, vi x4, zx5, vi x6, vi (x7 + 1), zx8] [] h Q)) ∧ (((i32 ((i32 x3 >>> (i32 x7 &&& 31)).toInt) &&& i32 1).toInt) = 0 → ((x2 < 0 → ((x7 < 0 → Wp X 0 198 0 [vr 62, vi (-1), vi 0, vi 8, vu, vu] [] h (fun v h' => Wp X ρ 185 120 [vr 61, vr 53, vi x2, vi x3, vi x4, zx5, vi x6, vi x7, zx8] (psh v []) h' Q)) ∧ (0 ≤ x7 → ((0 ≤ x7 ∧ x7 < 20) ∧ Wp X 0 198 0 [vr 62, vi (h 38 x7), vi (h 39 x7), vi (h 40 x7), vu, vu] [] h (fun v h' => Wp X ρ 185 120 [vr 61, vr 53, vi x2, vi x3, vi x4, zx5, vi x6, vi x7, zx8] (psh v []) h' Q))))) ∧ (0 ≤ x2 → (((h 62 6) ≤ x2 → ((x7 < 0 → Wp X 0 198 0 [vr 62, vi (-1), vi 0, vi 8, vu, vu] [] h (fun v h' => Wp X ρ 185 120 [vr 61, vr 53, vi x2, vi x3, vi x4, zx5, vi x6, vi x7, zx8] (psh v []) h' Q)) ∧ (0 ≤ x7 → ((0 ≤ x7 ∧ x7 < 20) ∧ Wp X 0 198 0 [vr 62, vi (h 38 x7), vi (h 39 x7), vi (h 40 x7), vu, vu] [] h (fun v h' => Wp X ρ 185 120 [vr 61, vr 53, vi x2, vi x3, vi x4, zx5, vi x6, vi x7, zx8] (psh v []) h' Q))))) ∧ (x2 < (h 62 6) → ((x7 < 0 → Wp X 0 198 0 [vr 62, vi (-1), vi 0, vi 8, vu, vu] [] (upd2 h 62 6 x2) (fun v h' => Wp X ρ 185 120 [vr 61, vr 53, vi x2, vi x3, vi x4, zx5, vi x6, vi x7, zx8] (psh v []) h' Q)) ∧ (0 ≤ x7 → ((0 ≤ x7 ∧ x7 < 20) ∧ Wp X 0 198 0 [vr 62, vi (h 38 x7), vi (h 39 x7), vi (h 40 x7), vu, vu] [] (upd2 h 62 6 x2) (fun v h' => Wp X ρ 185 120 [vr 61, vr 53, vi x2, vi x3, vi x4, zx5, vi x6, vi x7, zx8] (psh v []) h' Q))))))))))))) : Wp X ρ 185 57 [vr 61, vr 53, vi x2, vi x3, vi x4, zx5, vi x6, vi x7, zx8] [] h Q := by
  refine wp_iload rfl rfl ?_
  refine wp_aload rfl rfl ?_
  refine wp_getR (r := 36) rfl (congrArg Prod.fst (kf_61 X.1)) rfl ?_
  refine wp_call (k := 188) (ρ2 := 0) (L2 := [vr 37]) rfl rfl rfl (Nat.lt_of_le_of_lt (Nat.le_of_ble_eq_true rfl) hρ) (Nat.le_of_ble_eq_true rfl) (Nat.le_of_ble_eq_true rfl) (rcv_V rfl (congrArg Prod.fst (kf_37 X.1))) rfl ?_
  refine wp_aload rfl rfl ?_
  refine wp_getI (j := 6) rfl (congrArg Prod.fst (kf_37 X.1)) rfl ?_
  refine wp_iret rfl rfl ?_
  show Wp X _ 185 66 [vr 61, vr 53, vi x2, vi x3, vi x4, zx5, vi x6, vi x7, zx8] [vi (h 37 6), vi x7] _ _
  refine wp_icge (tn := 169) rfl rfl (fun c1 => ?_) (fun c1 => ?_)
  · replace H := H.1 c1
    refine wp_iload rfl rfl ?_
    exact wp_iret rfl rfl H
  · replace H := H.2 c1
    refine wp_iload rfl rfl ?_
    refine wp_iload rfl rfl ?_
    refine wp_ishr rfl ?_
    refine wp_iconst rfl ?_
    refine wp_iand rfl ?_
    refine wp_ifne (tn := 163) rfl rfl (fun c2 => ?_) (fun c2 => ?_)
    · replace H := H.1 c2
      have g3 := H.1
      replace H := H.2
      refine wp_iincR (L2 := [vr 61, vr 53, vi x2, vi x3, vi x4, zx5, vi x6, vi (x7 + 1), zx8]) rfl rfl g3 rfl ?_
      refine wp_goto (tn := 57) rfl rfl ?_
      exact H
    · replace H := H.2 c2
      refine wp_aload rfl rfl ?_
      refine wp_getR (r := 61) rfl (congrArg Prod.fst (kf_61 X.1)) rfl ?_
      refine wp_iload rfl rfl ?_
      refine wp_call (k := 197) (ρ2 := 0) (L2 := [vr 62, vi x2]) rfl rfl rfl (Nat.lt_of_le_of_lt (Nat.le_of_ble_eq_true rfl) hρ) (Nat.le_of_ble_eq_true rfl) (Nat.le_of_ble_eq_true rfl) (rcv_V rfl (congrArg Prod.fst (kf_62 X.1))) rfl ?_
      refine wp_iload rfl rfl ?_
      refine wp_iflt (tn := 17) rfl rfl (fun c4 => ?_) (fun c4 => ?_)
      · replace H := H.1 c4
        refine wp_vret rfl rfl ?_
        show Wp X _ 185 86 [vr 61, vr 53, vi x2, vi x3, vi x4, zx5, vi x6, vi x7, zx8] [] _ _
        refine wp_aload rfl rfl ?_
        refine wp_getR (r := 61) rfl (congrArg Prod.fst (kf_61 X.1)) rfl ?_
        refine wp_aload rfl rfl ?_
        refine wp_getR (r := 36) rfl (congrArg Prod.fst (kf_61 X.1)) rfl ?_
        refine wp_iload rfl rfl ?_
        refine wp_call (k := 190) (ρ2 := 1) (L2 := [vr 37, vi x7]) rfl rfl rfl (Nat.lt_of_le_of_lt (Nat.le_of_ble_eq_true rfl) hρ) (Nat.le_of_ble_eq_true rfl) (Nat.le_of_ble_eq_true rfl) (rcv_V rfl (congrArg Prod.fst (kf_37 X.1))) rfl ?_
        refine wp_aload rfl rfl ?_
        refine wp_iload rfl rfl ?_
        refine wp_call (k := 189) (ρ2 := 0) (L2 := [vr 37, vi x7]) rfl rfl rfl (Nat.le_of_ble_eq_true rfl) (Nat.le_of_ble_eq_true rfl) (Nat.le_of_ble_eq_true rfl) (rcv_V rfl (congrArg Prod.fst (kf_37 X.1))) rfl ?_
        refine wp_iload rfl rfl ?_
        refine wp_iflt (tn := 16) rfl rfl (fun c5 => ?_) (fun c5 => ?_)
        · replace H := H.1 c5
          refine wp_iconst rfl ?_
          refine wp_zret rfl rfl (by decide) ?_
          show Wp X _ 190 5 [vr 37, vi x7] [vi 0] _ _
          refine wp_ifeqT (tn := 17) rfl rfl (by decide) ?_
          refine wp_iconst rfl ?_
          refine wp_iret rfl rfl ?_
          show Wp X _ 185 99 [vr 61, vr 53, vi x2, vi x3, vi x4, zx5, vi x6, vi x7, zx8] [vi (-1), vr 62] _ _
          refine wp_aload rfl rfl ?_
          refine wp_getR (r := 36) rfl (congrArg Prod.fst (kf_61 X.1)) rfl ?_
          refine wp_iload rfl rfl ?_
          refine wp_call (k := 191) (ρ2 := 1) (L2 := [vr 37, vi x7]) rfl rfl rfl (Nat.lt_of_le_of_lt (Nat.le_of_ble_eq_true rfl) hρ) (Nat.le_of_ble_eq_true rfl) (Nat.le_of_ble_eq_true rfl) (rcv_V rfl (congrArg Prod.fst (kf_37 X.1))) rfl ?_
          refine wp_aload rfl rfl ?_
          refine wp_iload rfl rfl ?_
          refine wp_call (k := 189) (ρ2 := 0) (L2 := [vr 37, vi x7]) rfl rfl rfl (Nat.le_of_ble_eq_true rfl) (Nat.le_of_ble_eq_true rfl) (Nat.le_of_ble_eq_true rfl) (rcv_V rfl (congrArg Prod.fst (kf_37 X.1))) rfl ?_
          refine wp_iload rfl rfl ?_
          refine wp_ifltT (tn := 16) rfl rfl c5 ?_
          refine wp_iconst rfl ?_
          refine wp_zret rfl rfl (by decide) ?_
          show Wp X _ 191 5 [vr 37, vi x7] [vi 0] _ _
          refine wp_ifeqT (tn := 17) rfl rfl (by decide) ?_
          refine wp_iconst rfl ?_
          refine wp_iret rfl rfl ?_
          show Wp X _ 185 108 [vr 61, vr 53, vi x2, vi x3, vi x4, zx5, vi x6, vi x7, zx8] [vi 0, vi (-1), vr 62] _ _
          refine wp_aload rfl rfl ?_
          refine wp_getR (r := 36) rfl (congrArg Prod.fst (kf_61 X.1)) rfl ?_
          refine wp_iload rfl rfl ?_
          refine wp_call (k := 192) (ρ2 := 1) (L2 := [vr 37, vi x7]) rfl rfl rfl (Nat.lt_of_le_of_lt (Nat.le_of_ble_eq_true rfl) hρ) (Nat.le_of_ble_eq_true rfl) (Nat.le_of_ble_eq_true rfl) (rcv_V rfl (congrArg Prod.fst (kf_37 X.1))) rfl ?_
          refine wp_aload rfl rfl ?_
          refine wp_iload rfl rfl ?_
          refine wp_call (k := 189) (ρ2 := 0) (L2 := [vr 37, vi x7]) rfl rfl rfl (Nat.le_of_ble_eq_true rfl) (Nat.le_of_ble_eq_true rfl) (Nat.le_of_ble_eq_true rfl) (rcv_V rfl (congrArg Prod.fst (kf_37 X.1))) rfl ?_
          refine wp_iload rfl rfl ?_
          refine wp_ifltT (tn := 16) rfl rfl c5 ?_
          refine wp_iconst rfl ?_
          refine wp_zret rfl rfl (by decide) ?_
          show Wp X _ 192 5 [vr 37, vi x7] [vi 0] _ _
          refine wp_ifeqT (tn := 17) rfl rfl (by decide) ?_
          refine wp_iconst rfl ?_
          refine wp_iret rfl rfl ?_
          show Wp X _ 185 117 [vr 61, vr 53, vi x2, vi x3, vi x4, zx5, vi x6, vi x7, zx8] [vi 8, vi 0, vi (-1), vr 62] _ _
          exact wp_call (k := 198) (ρ2 := 0) (L2 := [vr 62, vi (-1), vi 0, vi 8, vu, vu]) rfl rfl rfl (Nat.lt_of_le_of_lt (Nat.le_of_ble_eq_true rfl) hρ) (Nat.le_of_ble_eq_true rfl) (Nat.le_of_ble_eq_true rfl) (rcv_V rfl (congrArg Prod.fst (kf_62 X.1))) rfl H
        · replace H := H.2 c5
          refine wp_iload rfl rfl ?_
          refine wp_aload rfl rfl ?_
          refine wp_getI (j := 6) rfl (congrArg Prod.fst (kf_37 X.1)) rfl ?_
          refine wp_icgeF (tn := 16) rfl rfl c1 ?_
          refine wp_iconst rfl ?_
          refine wp_goto (tn := 17) rfl rfl ?_
          refine wp_zret rfl rfl (by decide) ?_
          show Wp X _ 190 5 [vr 37, vi x7] [vi 1] _ _
          refine wp_ifeqF (tn := 17) rfl rfl (by decide) ?_
          refine wp_aload rfl rfl ?_
          refine wp_getR (r := 37) rfl (congrArg Prod.fst (kf_37 X.1)) rfl ?_
          refine wp_iload rfl rfl ?_
          have g6 := H.1
          replace H := H.2
          refine wp_iaload rfl (kf_38 X.1) g6 ?_
          refine wp_goto (tn := 18) rfl rfl ?_
          refine wp_iret rfl rfl ?_
          show Wp X _ 185 99 [vr 61, vr 53, vi x2, vi x3, vi x4, zx5, vi x6, vi x7, zx8] [vi (h 38 x7), vr 62] _ _
          refine wp_aload rfl rfl ?_
          refine wp_getR (r := 36) rfl (congrArg Prod.fst (kf_61 X.1)) rfl ?_
          refine wp_iload rfl rfl ?_
          refine wp_call (k := 191) (ρ2 := 1) (L2 := [vr 37, vi x7]) rfl rfl rfl (Nat.lt_of_le_of_lt (Nat.le_of_ble_eq_true rfl) hρ) (Nat.le_of_ble_eq_true rfl) (Nat.le_of_ble_eq_true rfl) (rcv_V rfl (congrArg Prod.fst (kf_37 X.1))) rfl ?_
          refine wp_aload rfl rfl ?_
          refine wp_iload rfl rfl ?_
          refine wp_call (k := 189) (ρ2 := 0) (L2 := [vr 37, vi x7]) rfl rfl rfl (Nat.le_of_ble_eq_true rfl) (Nat.le_of_ble_eq_true rfl) (Nat.le_of_ble_eq_true rfl) (rcv_V rfl (congrArg Prod.fst (kf_37 X.1))) rfl ?_
          refine wp_iload rfl rfl ?_
          refine wp_ifltF (tn := 16) rfl rfl g6.1 ?_
          refine wp_iload rfl rfl ?_
          refine wp_aload rfl rfl ?_
          refine wp_getI (j := 6) rfl (congrArg Prod.fst (kf_37 X.1)) rfl ?_
          refine wp_icgeF (tn := 16) rfl rfl c1 ?_
          refine wp_iconst rfl ?_
          refine wp_goto (tn := 17) rfl rfl ?_
          refine wp_zret rfl rfl (by decide) ?_
          show Wp X _ 191 5 [vr 37, vi x7] [vi 1] _ _
          refine wp_ifeqF (tn := 17) rfl rfl (by decide) ?_
          refine wp_aload rfl rfl ?_
          refine wp_getR (r := 38) rfl (congrArg Prod.fst (kf_37 X.1)) rfl ?_
          refine wp_iload rfl rfl ?_
          refine wp_iaload rfl (kf_39 X.1) ⟨g6.1, g6.2⟩ ?_
          refine wp_goto (tn := 18) rfl rfl ?_
          refine wp_iret rfl rfl ?_
          show Wp X _ 185 108 [vr 61, vr 53, vi x2, vi x3, vi x4, zx5, vi x6, vi x7, zx8] [vi (h 39 x7), vi (h 38 x7), vr 62] _ _
          refine wp_aload rfl rfl ?_
          refine wp_getR (r := 36) rfl (congrArg Prod.fst (kf_61 X.1)) rfl ?_
          refine wp_iload rfl rfl ?_
          refine wp_call (k := 192) (ρ2 := 1) (L2 := [vr 37, vi x7]) rfl rfl rfl (Nat.lt_of_le_of_lt (Nat.le_of_ble_eq_true rfl) hρ) (Nat.le_of_ble_eq_true rfl) (Nat.le_of_ble_eq_true rfl) (rcv_V rfl (congrArg Prod.fst (kf_37 X.1))) rfl ?_
          refine wp_aload rfl rfl ?_
          refine wp_iload rfl rfl ?_
          refine wp_call (k := 189) (ρ2 := 0) (L2 := [vr 37, vi x7]) rfl rfl rfl (Nat.le_of_ble_eq_true rfl) (Nat.le_of_ble_eq_true rfl) (Nat.le_of_ble_eq_true rfl) (rcv_V rfl (congrArg Prod.fst (kf_37 X.1))) rfl ?_
          refine wp_iload rfl rfl ?_
          refine wp_ifltF (tn := 16) rfl rfl g6.1 ?_
          refine wp_iload rfl rfl ?_
          refine wp_aload rfl rfl ?_
          refine wp_getI (j := 6) rfl (congrArg Prod.fst (kf_37 X.1)) rfl ?_
          refine wp_icgeF (tn := 16) rfl rfl c1 ?_
          refine wp_iconst rfl ?_
          refine wp_goto (tn := 17) rfl rfl ?_
          refine wp_zret rfl rfl (by decide) ?_
          show Wp X _ 192 5 [vr 37, vi x7] [vi 1] _ _
          refine wp_ifeqF (tn := 17) rfl rfl (by decide) ?_
          refine wp_aload rfl rfl ?_
          refine wp_getR (r := 39) rfl (congrArg Prod.fst (kf_37 X.1)) rfl ?_
          refine wp_iload rfl rfl ?_
          refine wp_iaload rfl (kf_40 X.1) ⟨g6.1, g6.2⟩ ?_
          refine wp_goto (tn := 19) rfl rfl ?_
          refine wp_iret rfl rfl ?_
          show Wp X _ 185 117 [vr 61, vr 53, vi x2, vi x3, vi x4, zx5, vi x6, vi x7, zx8] [vi (h 40 x7), vi (h 39 x7), vi (h 38 x7), vr 62] _ _
          exact wp_call (k := 198) (ρ2 := 0) (L2 := [vr 62, vi (h 38 x7), vi (h 39 x7), vi (h 40 x7), vu, vu]) rfl rfl rfl (Nat.lt_of_le_of_lt (Nat.le_of_ble_eq_true rfl) hρ) (Nat.le_of_ble_eq_true rfl) (Nat.le_of_ble_eq_true rfl) (rcv_V rfl (congrArg Prod.fst (kf_62 X.1))) rfl H
      · replace H := H.2 c4
        refine wp_iload rfl rfl ?_
        refine wp_aload rfl rfl ?_
        refine wp_getI (j := 6) rfl (congrArg Prod.fst (kf_62 X.1)) rfl ?_
        refine wp_icge (tn := 17) rfl rfl (fun c7 => ?_) (fun c7 => ?_)
        · replace H := H.1 c7
          refine wp_vret rfl rfl ?_
          show Wp X _ 185 86 [vr 61, vr 53, vi x2, vi x3, vi x4, zx5, vi x6, vi x7, zx8] [] _ _
          refine wp_aload rfl rfl ?_
          refine wp_getR (r := 61) rfl (congrArg Prod.fst (kf_61 X.1)) rfl ?_
          refine wp_aload rfl rfl ?_
          refine wp_getR (r := 36) rfl (congrArg Prod.fst (kf_61 X.1)) rfl ?_
          refine wp_iload rfl rfl ?_
          refine wp_call (k := 190) (ρ2 := 1) (L2 := [vr 37, vi x7]) rfl rfl rfl (Nat.lt_of_le_of_lt (Nat.le_of_ble_eq_true rfl) hρ) (Nat.le_of_ble_eq_true rfl) (Nat.le_of_ble_eq_true rfl) (rcv_V rfl (congrArg Prod.fst (kf_37 X.1))) rfl ?_
          refine wp_aload rfl rfl ?_
          refine wp_iload rfl rfl ?_
          refine wp_call (k := 189) (ρ2 := 0) (L2 := [vr 37, vi x7]) rfl rfl rfl (Nat.le_of_ble_eq_true rfl) (Nat.le_of_ble_eq_true rfl) (Nat.le_of_ble_eq_true rfl) (rcv_V rfl (congrArg Prod.fst (kf_37 X.1))) rfl ?_
          refine wp_iload rfl rfl ?_
          refine wp_iflt (tn := 16) rfl rfl (fun c8 => ?_) (fun c8 => ?_)
          · replace H := H.1 c8
            refine wp_iconst rfl ?_
            refine wp_zret rfl rfl (by decide) ?_
            show Wp X _ 190 5 [vr 37, vi x7] [vi 0] _ _
            refine wp_ifeqT (tn := 17) rfl rfl (by decide) ?_
            refine wp_iconst rfl ?_
            refine wp_iret rfl rfl ?_
            show Wp X _ 185 99 [vr 61, vr 53, vi x2, vi x3, vi x4, zx5, vi x6, vi x7, zx8] [vi (-1), vr 62] _ _
            refine wp_aload rfl rfl ?_
            refine wp_getR (r := 36) rfl (congrArg Prod.fst (kf_61 X.1)) rfl ?_
            refine wp_iload rfl rfl ?_
            refine wp_call (k := 191) (ρ2 := 1) (L2 := [vr 37, vi x7]) rfl rfl rfl (Nat.lt_of_le_of_lt (Nat.le_of_ble_eq_true rfl) hρ) (Nat.le_of_ble_eq_true rfl) (Nat.le_of_ble_eq_true rfl) (rcv_V rfl (congrArg Prod.fst (kf_37 X.1))) rfl ?_
            refine wp_aload rfl rfl ?_
            refine wp_iload rfl rfl ?_
            refine wp_call (k := 189) (ρ2 := 0) (L2 := [vr 37, vi x7]) rfl rfl rfl (Nat.le_of_ble_eq_true rfl) (Nat.le_of_ble_eq_true rfl) (Nat.le_of_ble_eq_true rfl) (rcv_V rfl (congrArg Prod.fst (kf_37 X.1))) rfl ?_
            refine wp_iload rfl rfl ?_
            refine wp_ifltT (tn := 16) rfl rfl c8 ?_
            refine wp_iconst rfl ?_
            refine wp_zret rfl rfl (by decide) ?_
            show Wp X _ 191 5 [vr 37, vi x7] [vi 0] _ _
            refine wp_ifeqT (tn := 17) rfl rfl (by decide) ?_
            refine wp_iconst rfl ?_
            refine wp_iret rfl rfl ?_
            show Wp X _ 185 108 [vr 61, vr 53, vi x2, vi x3, vi x4, zx5, vi x6, vi x7, zx8] [vi 0, vi (-1), vr 62] _ _
            refine wp_aload rfl rfl ?_
            refine wp_getR (r := 36) rfl (congrArg Prod.fst (kf_61 X.1)) rfl ?_
            refine wp_iload rfl rfl ?_
            refine wp_call (k := 192) (ρ2 := 1) (L2 := [vr 37, vi x7]) rfl rfl rfl (Nat.lt_of_le_of_lt (Nat.le_of_ble_eq_true rfl) hρ) (Nat.le_of_ble_eq_true rfl) (Nat.le_of_ble_eq_true rfl) (rcv_V rfl (congrArg Prod.fst (kf_37 X.1))) rfl ?_
            refine wp_aload rfl rfl ?_
            refine wp_iload rfl rfl ?_
            refine wp_call (k := 189) (ρ2 := 0) (L2 := [vr 37, vi x7]) rfl rfl rfl (Nat.le_of_ble_eq_true rfl) (Nat.le_of_ble_eq_true rfl) (Nat.le_of_ble_eq_true rfl) (rcv_V rfl (congrArg Prod.fst (kf_37 X.1))) rfl ?_
            refine wp_iload rfl rfl ?_
            refine wp_ifltT (tn := 16) rfl rfl c8 ?_
            refine wp_iconst rfl ?_
            refine wp_zret rfl rfl (by decide) ?_
            show Wp X _ 192 5 [vr 37, vi x7] [vi 0] _ _
            refine wp_ifeqT (tn := 17) rfl rfl (by decide) ?_
            refine wp_iconst rfl ?_
            refine wp_iret rfl rfl ?_
            show Wp X _ 185 117 [vr 61, vr 53, vi x2, vi x3, vi x4, zx5, vi x6, vi x7, zx8] [vi 8, vi 0, vi (-1), vr 62] _ _
            exact wp_call (k := 198) (ρ2 := 0) (L2 := [vr 62, vi (-1), vi 0, vi 8, vu, vu]) rfl rfl rfl (Nat.lt_of_le_of_lt (Nat.le_of_ble_eq_true rfl) hρ) (Nat.le_of_ble_eq_true rfl) (Nat.le_of_ble_eq_true rfl) (rcv_V rfl (congrArg Prod.fst (kf_62 X.1))) rfl H
          · replace H := H.2 c8
            refine wp_iload rfl rfl ?_
            refine wp_aload rfl rfl ?_
            refine wp_getI (j := 6) rfl (congrArg Prod.fst (kf_37 X.1)) rfl ?_
            refine wp_icgeF (tn := 16) rfl rfl c1 ?_
            refine wp_iconst rfl ?_
            refine wp_goto (tn := 17) rfl rfl ?_
            refine wp_zret rfl rfl (by decide) ?_
            show Wp X _ 190 5 [vr 37, vi x7] [vi 1] _ _
            refine wp_ifeqF (tn := 17) rfl rfl (by decide) ?_
            refine wp_aload rfl rfl ?_
            refine wp_getR (r := 37) rfl (congrArg Prod.fst (kf_37 X.1)) rfl ?_
            refine wp_iload rfl rfl ?_
            have g9 := H.1
            replace H := H.2
            refine wp_iaload rfl (kf_38 X.1) g9 ?_
            refine wp_goto (tn := 18) rfl rfl ?_
            refine wp_iret rfl rfl ?_
            show Wp X _ 185 99 [vr 61, vr 53, vi x2, vi x3, vi x4, zx5, vi x6, vi x7, zx8] [vi (h 38 x7), vr 62] _ _
            refine wp_aload rfl rfl ?_
            refine wp_getR (r := 36) rfl (congrArg Prod.fst (kf_61 X.1)) rfl ?_
            refine wp_iload rfl rfl ?_
            refine wp_call (k := 191) (ρ2 := 1) (L2 := [vr 37, vi x7]) rfl rfl rfl (Nat.lt_of_le_of_lt (Nat.le_of_ble_eq_true rfl) hρ) (Nat.le_of_ble_eq_true rfl) (Nat.le_of_ble_eq_true rfl) (rcv_V rfl (congrArg Prod.fst (kf_37 X.1))) rfl ?_
            refine wp_aload rfl rfl ?_
            refine wp_iload rfl rfl ?_
            refine wp_call (k := 189) (ρ2 := 0) (L2 := [vr 37, vi x7]) rfl rfl rfl (Nat.le_of_ble_eq_true rfl) (Nat.le_of_ble_eq_true rfl) (Nat.le_of_ble_eq_true rfl) (rcv_V rfl (congrArg Prod.fst (kf_37 X.1))) rfl ?_
            refine wp_iload rfl rfl ?_
            refine wp_ifltF (tn := 16) rfl rfl g9.1 ?_
            refine wp_iload rfl rfl ?_
            refine wp_aload rfl rfl ?_
            refine wp_getI (j := 6) rfl (congrArg Prod.fst (kf_37 X.1)) rfl ?_
            refine wp_icgeF (tn := 16) rfl rfl c1 ?_
            refine wp_iconst rfl ?_
            refine wp_goto (tn := 17) rfl rfl ?_
            refine wp_zret rfl rfl (by decide) ?_
            show Wp X _ 191 5 [vr 37, vi x7] [vi 1] _ _
            refine wp_ifeqF (tn := 17) rfl rfl (by decide) ?_
            refine wp_aload rfl rfl ?_
            refine wp_getR (r := 38) rfl (congrArg Prod.fst (kf_37 X.1)) rfl ?_
            refine wp_iload rfl rfl ?_
            refine wp_iaload rfl (kf_39 X.1) ⟨g9.1, g9.2⟩ ?_
            refine wp_goto (tn := 18) rfl rfl ?_
            refine wp_iret rfl rfl ?_
            show Wp X _ 185 108 [vr 61, vr 53, vi x2, vi x3, vi x4, zx5, vi x6, vi x7, zx8] [vi (h 39 x7), vi (h 38 x7), vr 62] _ _
            refine wp_aload rfl rfl ?_
            refine wp_getR (r := 36) rfl (congrArg Prod.fst (kf_61 X.1)) rfl ?_
            refine wp_iload rfl rfl ?_
            refine wp_call (k := 192) (ρ2 := 1) (L2 := [vr 37, vi x7]) rfl rfl rfl (Nat.lt_of_le_of_lt (Nat.le_of_ble_eq_true rfl) hρ) (Nat.le_of_ble_eq_true rfl) (Nat.le_of_ble_eq_true rfl) (rcv_V rfl (congrArg Prod.fst (kf_37 X.1))) rfl ?_
            refine wp_aload rfl rfl ?_
            refine wp_iload rfl rfl ?_
            refine wp_call (k := 189) (ρ2 := 0) (L2 := [vr 37, vi x7]) rfl rfl rfl (Nat.le_of_ble_eq_true rfl) (Nat.le_of_ble_eq_true rfl) (Nat.le_of_ble_eq_true rfl) (rcv_V rfl (congrArg Prod.fst (kf_37 X.1))) rfl ?_
            refine wp_iload rfl rfl ?_
            refine wp_ifltF (tn := 16) rfl rfl g9.1 ?_
            refine wp_iload rfl rfl ?_
            refine wp_aload rfl rfl ?_
            refine wp_getI (j := 6) rfl (congrArg Prod.fst (kf_37 X.1)) rfl ?_
            refine wp_icgeF (tn := 16) rfl rfl c1 ?_
            refine wp_iconst rfl ?_
            refine wp_goto (tn := 17) rfl rfl ?_
            refine wp_zret rfl rfl (by decide) ?_
            show Wp X _ 192 5 [vr 37, vi x7] [vi 1] _ _
            refine wp_ifeqF (tn := 17) rfl rfl (by decide) ?_
            refine wp_aload rfl rfl ?_
            refine wp_getR (r := 39) rfl (congrArg Prod.fst (kf_37 X.1)) rfl ?_
            refine wp_iload rfl rfl ?_
            refine wp_iaload rfl (kf_40 X.1) ⟨g9.1, g9.2⟩ ?_
            refine wp_goto (tn := 19) rfl rfl ?_
            refine wp_iret rfl rfl ?_
            show Wp X _ 185 117 [vr 61, vr 53, vi x2, vi x3, vi x4, zx5, vi x6, vi x7, zx8] [vi (h 40 x7), vi (h 39 x7), vi (h 38 x7), vr 62] _ _
            exact wp_call (k := 198) (ρ2 := 0) (L2 := [vr 62, vi (h 38 x7), vi (h 39 x7), vi (h 40 x7), vu, vu]) rfl rfl rfl (Nat.lt_of_le_of_lt (Nat.le_of_ble_eq_true rfl) hρ) (Nat.le_of_ble_eq_true rfl) (Nat.le_of_ble_eq_true rfl) (rcv_V rfl (congrArg Prod.fst (kf_62 X.1))) rfl H
        · replace H := H.2 c7
          refine wp_aload rfl rfl ?_
          refine wp_iload rfl rfl ?_
          refine wp_putI (j := 6) rfl (congrArg Prod.fst (kf_62 X.1)) rfl rfl rfl ?_
          refine wp_vret rfl rfl ?_
          show Wp X _ 185 86 [vr 61, vr 53, vi x2, vi x3, vi x4, zx5, vi x6, vi x7, zx8] [] _ _
          refine wp_aload rfl rfl ?_
          refine wp_getR (r := 61) rfl (congrArg Prod.fst (kf_61 X.1)) rfl ?_
          refine wp_aload rfl rfl ?_
          refine wp_getR (r := 36) rfl (congrArg Prod.fst (kf_61 X.1)) rfl ?_
          refine wp_iload rfl rfl ?_
          refine wp_call (k := 190) (ρ2 := 1) (L2 := [vr 37, vi x7]) rfl rfl rfl (Nat.lt_of_le_of_lt (Nat.le_of_ble_eq_true rfl) hρ) (Nat.le_of_ble_eq_true rfl) (Nat.le_of_ble_eq_true rfl) (rcv_V rfl (congrArg Prod.fst (kf_37 X.1))) rfl ?_
          refine wp_aload rfl rfl ?_
          refine wp_iload rfl rfl ?_
          refine wp_call (k := 189) (ρ2 := 0) (L2 := [vr 37, vi x7]) rfl rfl rfl (Nat.le_of_ble_eq_true rfl) (Nat.le_of_ble_eq_true rfl) (Nat.le_of_ble_eq_true rfl) (rcv_V rfl (congrArg Prod.fst (kf_37 X.1))) rfl ?_
          refine wp_iload rfl rfl ?_
          refine wp_iflt (tn := 16) rfl rfl (fun c10 => ?_) (fun c10 => ?_)
          · replace H := H.1 c10
            refine wp_iconst rfl ?_
            refine wp_zret rfl rfl (by decide) ?_
            show Wp X _ 190 5 [vr 37, vi x7] [vi 0] _ _
            refine wp_ifeqT (tn := 17) rfl rfl (by decide) ?_
            refine wp_iconst rfl ?_
            refine wp_iret rfl rfl ?_
            show Wp X _ 185 99 [vr 61, vr 53, vi x2, vi x3, vi x4, zx5, vi x6, vi x7, zx8] [vi (-1), vr 62] _ _
            refine wp_aload rfl rfl ?_
            refine wp_getR (r := 36) rfl (congrArg Prod.fst (kf_61 X.1)) rfl ?_
            refine wp_iload rfl rfl ?_
            refine wp_call (k := 191) (ρ2 := 1) (L2 := [vr 37, vi x7]) rfl rfl rfl (Nat.lt_of_le_of_lt (Nat.le_of_ble_eq_true rfl) hρ) (Nat.le_of_ble_eq_true rfl) (Nat.le_of_ble_eq_true rfl) (rcv_V rfl (congrArg Prod.fst (kf_37 X.1))) rfl ?_
            refine wp_aload rfl rfl ?_
            refine wp_iload rfl rfl ?_
            refine wp_call (k := 189) (ρ2 := 0) (L2 := [vr 37, vi x7]) rfl rfl rfl (Nat.le_of_ble_eq_true rfl) (Nat.le_of_ble_eq_true rfl) (Nat.le_of_ble_eq_true rfl) (rcv_V rfl (congrArg Prod.fst (kf_37 X.1))) rfl ?_
            refine wp_iload rfl rfl ?_
            refine wp_ifltT (tn := 16) rfl rfl c10 ?_
            refine wp_iconst rfl ?_
            refine wp_zret rfl rfl (by decide) ?_
            show Wp X _ 191 5 [vr 37, vi x7] [vi 0] _ _
            refine wp_ifeqT (tn := 17) rfl rfl (by decide) ?_
            refine wp_iconst rfl ?_
            refine wp_iret rfl rfl ?_
            show Wp X _ 185 108 [vr 61, vr 53, vi x2, vi x3, vi x4, zx5, vi x6, vi x7, zx8] [vi 0, vi (-1), vr 62] _ _
            refine wp_aload rfl rfl ?_
            refine wp_getR (r := 36) rfl (congrArg Prod.fst (kf_61 X.1)) rfl ?_
            refine wp_iload rfl rfl ?_
            refine wp_call (k := 192) (ρ2 := 1) (L2 := [vr 37, vi x7]) rfl rfl rfl (Nat.lt_of_le_of_lt (Nat.le_of_ble_eq_true rfl) hρ) (Nat.le_of_ble_eq_true rfl) (Nat.le_of_ble_eq_true rfl) (rcv_V rfl (congrArg Prod.fst (kf_37 X.1))) rfl ?_
            refine wp_aload rfl rfl ?_
            refine wp_iload rfl rfl ?_
            refine wp_call (k := 189) (ρ2 := 0) (L2 := [vr 37, vi x7]) rfl rfl rfl (Nat.le_of_ble_eq_true rfl) (Nat.le_of_ble_eq_true rfl) (Nat.le_of_ble_eq_true rfl) (rcv_V rfl (congrArg Prod.fst (kf_37 X.1))) rfl ?_
            refine wp_iload rfl rfl ?_
            refine wp_ifltT (tn := 16) rfl rfl c10 ?_
            refine wp_iconst rfl ?_
            refine wp_zret rfl rfl (by decide) ?_
            show Wp X _ 192 5 [vr 37, vi x7] [vi 0] _ _
            refine wp_ifeqT (tn := 17) rfl rfl (by decide) ?_
            refine wp_iconst rfl ?_
            refine wp_iret rfl rfl ?_
            show Wp X _ 185 117 [vr 61, vr 53, vi x2, vi x3, vi x4, zx5, vi x6, vi x7, zx8] [vi 8, vi 0, vi (-1), vr 62] _ _
            exact wp_call (k := 198) (ρ2 := 0) (L2 := [vr 62, vi (-1), vi 0, vi 8, vu, vu]) rfl rfl rfl (Nat.lt_of_le_of_lt (Nat.le_of_ble_eq_true rfl) hρ) (Nat.le_of_ble_eq_true rfl) (Nat.le_of_ble_eq_true rfl) (rcv_V rfl (congrArg Prod.fst (kf_62 X.1))) rfl H
          · replace H := H.2 c10
            refine wp_iload rfl rfl ?_
            refine wp_aload rfl rfl ?_
            refine wp_getI (j := 6) rfl (congrArg Prod.fst (kf_37 X.1)) rfl ?_
            refine Wp.topI (y := (h 37 6)) (congrFun (upd2_ne (by decide)) _) ?_
            refine wp_icgeF (tn := 16) rfl rfl c1 ?_
            refine wp_iconst rfl ?_
            refine wp_goto (tn := 17) rfl rfl ?_
            refine wp_zret rfl rfl (by decide) ?_
            show Wp X _ 190 5 [vr 37, vi x7] [vi 1] _ _
            refine wp_ifeqF (tn := 17) rfl rfl (by decide) ?_
            refine wp_aload rfl rfl ?_
            refine wp_getR (r := 37) rfl (congrArg Prod.fst (kf_37 X.1)) rfl ?_
            refine wp_iload rfl rfl ?_
            have g11 := H.1
            replace H := H.2
            refine wp_iaload rfl (kf_38 X.1) g11 ?_
            refine Wp.topI (y := (h 38 x7)) (congrFun (upd2_ne (by decide)) _) ?_
            refine wp_goto (tn := 18) rfl rfl ?_
            refine wp_iret rfl rfl ?_
            show Wp X _ 185 99 [vr 61, vr 53, vi x2, vi x3, vi x4, zx5, vi x6, vi x7, zx8] [vi (h 38 x7), vr 62] _ _
            refine wp_aload rfl rfl ?_
            refine wp_getR (r := 36) rfl (congrArg Prod.fst (kf_61 X.1)) rfl ?_
            refine wp_iload rfl rfl ?_
            refine wp_call (k := 191) (ρ2 := 1) (L2 := [vr 37, vi x7]) rfl rfl rfl (Nat.lt_of_le_of_lt (Nat.le_of_ble_eq_true rfl) hρ) (Nat.le_of_ble_eq_true rfl) (Nat.le_of_ble_eq_true rfl) (rcv_V rfl (congrArg Prod.fst (kf_37 X.1))) rfl ?_
            refine wp_aload rfl rfl ?_
            refine wp_iload rfl rfl ?_
            refine wp_call (k := 189) (ρ2 := 0) (L2 := [vr 37, vi x7]) rfl rfl rfl (Nat.le_of_ble_eq_true rfl) (Nat.le_of_ble_eq_true rfl) (Nat.le_of_ble_eq_true rfl) (rcv_V rfl (congrArg Prod.fst (kf_37 X.1))) rfl ?_
            refine wp_iload rfl rfl ?_
            refine wp_ifltF (tn := 16) rfl rfl g11.1 ?_
            refine wp_iload rfl rfl ?_
            refine wp_aload rfl rfl ?_
            refine wp_getI (j := 6) rfl (congrArg Prod.fst (kf_37 X.1)) rfl ?_
            refine Wp.topI (y := (h 37 6)) (congrFun (upd2_ne (by decide)) _) ?_
            refine wp_icgeF (tn := 16) rfl rfl c1 ?_
            refine wp_iconst rfl ?_
            refine wp_goto (tn := 17) rfl rfl ?_
            refine wp_zret rfl rfl (by decide) ?_
            show Wp X _ 191 5 [vr 37, vi x7] [vi 1] _ _
            refine wp_ifeqF (tn := 17) rfl rfl (by decide) ?_
            refine wp_aload rfl rfl ?_
            refine wp_getR (r := 38) rfl (congrArg Prod.fst (kf_37 X.1)) rfl ?_
            refine wp_iload rfl rfl ?_
            refine wp_iaload rfl (kf_39 X.1) ⟨g11.1, g11.2⟩ ?_
            refine Wp.topI (y := (h 39 x7)) (congrFun (upd2_ne (by decide)) _) ?_
            refine wp_goto (tn := 18) rfl rfl ?_
            refine wp_iret rfl rfl ?_
            show Wp X _ 185 108 [vr 61, vr 53, vi x2, vi x3, vi x4, zx5, vi x6, vi x7, zx8] [vi (h 39 x7), vi (h 38 x7), vr 62] _ _
            refine wp_aload rfl rfl ?_
            refine wp_getR (r := 36) rfl (congrArg Prod.fst (kf_61 X.1)) rfl ?_
            refine wp_iload rfl rfl ?_
            refine wp_call (k := 192) (ρ2 := 1) (L2 := [vr 37, vi x7]) rfl rfl rfl (Nat.lt_of_le_of_lt (Nat.le_of_ble_eq_true rfl) hρ) (Nat.le_of_ble_eq_true rfl) (Nat.le_of_ble_eq_true rfl) (rcv_V rfl (congrArg Prod.fst (kf_37 X.1))) rfl ?_
            refine wp_aload rfl rfl ?_
            refine wp_iload rfl rfl ?_
            refine wp_call (k := 189) (ρ2 := 0) (L2 := [vr 37, vi x7]) rfl rfl rfl (Nat.le_of_ble_eq_true rfl) (Nat.le_of_ble_eq_true rfl) (Nat.le_of_ble_eq_true rfl) (rcv_V rfl (congrArg Prod.fst (kf_37 X.1))) rfl ?_
            refine wp_iload rfl rfl ?_
            refine wp_ifltF (tn := 16) rfl rfl g11.1 ?_
            refine wp_iload rfl rfl ?_
            refine wp_aload rfl rfl ?_
            refine wp_getI (j := 6) rfl (congrArg Prod.fst (kf_37 X.1)) rfl ?_
            refine Wp.topI (y := (h 37 6)) (congrFun (upd2_ne (by decide)) _) ?_
            refine wp_icgeF (tn := 16) rfl rfl c1 ?_
            refine wp_iconst rfl ?_
            refine wp_goto (tn := 17) rfl rfl ?_
            refine wp_zret rfl rfl (by decide) ?_
            show Wp X _ 192 5 [vr 37, vi x7] [vi 1] _ _
            refine wp_ifeqF (tn := 17) rfl rfl (by decide) ?_
            refine wp_aload rfl rfl ?_
            refine wp_getR (r := 39) rfl (congrArg Prod.fst (kf_37 X.1)) rfl ?_
            refine wp_iload rfl rfl ?_
            refine wp_iaload rfl (kf_40 X.1) ⟨g11.1, g11.2⟩ ?_
            refine Wp.topI (y := (h 40 x7)) (congrFun (upd2_ne (by decide)) _) ?_
            refine wp_goto (tn := 19) rfl rfl ?_
            refine wp_iret rfl rfl ?_
            show Wp X _ 185 117 [vr 61, vr 53, vi x2, vi x3, vi x4, zx5, vi x6, vi x7, zx8] [vi (h 40 x7), vi (h 39 x7), vi (h 38 x7), vr 62] _ _
            exact wp_call (k := 198) (ρ2 := 0) (L2 := [vr 62, vi (h 38 x7), vi (h 39 x7), vi (h 40 x7), vu, vu]) rfl rfl rfl (Nat.lt_of_le_of_lt (Nat.le_of_ble_eq_true rfl) hρ) (Nat.le_of_ble_eq_true rfl) (Nat.le_of_ble_eq_true rfl) (rcv_V rfl (congrArg Prod.fst (kf_62 X.1))) rfl H
/-- Orders.enoughWarn(L$Orders;L$RuleText;III)I, from 120 -/
theorem S185_61_53_120 {X : Nat × (Int → Int)} {h : HP} {Q : bQ} {ρ : Nat} (hρ : 4 < ρ) (x2 : Int) (x3 : Int) (x4 : Int) (zx5 : aV) (x6 : Int) (x7 : Int) (zx8 : aV) (H : Wp X 3 208 0 [vr 53, vr 62, vi x2] [] h (fun v h' => Wp X ρ 185 129 [vr 61, vr 53, vi x2, vi x3, vi x4, zx5, vi x6, vi x7, zx8] (psh v []) h' Q)) : Wp X ρ 185 120 [vr 61, vr 53, vi x2, vi x3, vi x4, zx5, vi x6, vi x7, zx8] [] h Q := by
  refine wp_aload rfl rfl ?_
  refine wp_aload rfl rfl ?_
  refine wp_getR (r := 61) rfl (congrArg Prod.fst (kf_61 X.1)) rfl ?_
  refine wp_iload rfl rfl ?_
  exact wp_call (k := 208) (ρ2 := 3) (L2 := [vr 53, vr 62, vi x2]) rfl rfl rfl (Nat.lt_of_le_of_lt (Nat.le_of_ble_eq_true rfl) hρ) (Nat.le_of_ble_eq_true rfl) (Nat.le_of_ble_eq_true rfl) (rcv_V rfl (congrArg Prod.fst (kf_53 X.1))) rfl H
/-- Orders.enoughWarn(L$Orders;L$RuleText;III)I, from 129 -/
theorem S185_61_53_129 {X : Nat × (Int → Int)} {h : HP} {Q : bQ} {ρ : Nat} (hρ : 4 < ρ) (x2 : Int) (x3 : Int) (x4 : Int) (zx5 : aV) (x6 : Int) (x7 : Int) (zx8 : aV) (s0 : Int) (H : ((s0 = 0 → ((R32 (x2 + 1)) ∧ ((R32 (x4 + 0)) ∧ (((4 + Int.toNat (8 - (x2 + 1))) < ρ) ∧ Wp X (4 + Int.toNat (8 - (x2 + 1))) 185 0 [vr 61, vr 53, vi (x2 + 1), vi ((i32 x3 ||| i32 ((i32 1 <<< (i32 x7 &&& 31)).toInt)).toInt), vi (x4 + 0), vu, vu, vu, vu] [] h (fun v h' => Wp X ρ 185 160 [vr 61, vr 53, vi x2, vi x3, vi x4, zx5, vi x6, vi x7, vi 0] (psh v [vi x6]) h' Q))))) ∧ (s0 ≠ 0 → ((R32 (x2 + 1)) ∧ ((R32 (x4 + 1)) ∧ (((4 + Int.toNat (8 - (x2 + 1))) < ρ) ∧ Wp X (4 + Int.toNat (8 - (x2 + 1))) 185 0 [vr 61, vr 53, vi (x2 + 1), vi ((i32 x3 ||| i32 ((i32 1 <<< (i32 x7 &&& 31)).toInt)).toInt), vi (x4 + 1), vu, vu, vu, vu] [] h (fun v h' => Wp X ρ 185 160 [vr 61, vr 53, vi x2, vi x3, vi x4, zx5, vi x6, vi x7, vi 1] (psh v [vi x6]) h' Q))))))) : Wp X ρ 185 129 [vr 61, vr 53, vi x2, vi x3, vi x4, zx5, vi x6, vi x7, zx8] [vi s0] h Q := by
  refine wp_ifeq (tn := 136) rfl rfl (fun c1 => ?_) (fun c1 => ?_)
  · replace H := H.1 c1
    refine wp_iconst rfl ?_
    refine wp_istore (L2 := [vr 61, vr 53, vi x2, vi x3, vi x4, zx5, vi x6, vi x7, vi 0]) rfl (Nat.le_of_ble_eq_true rfl) rfl ?_
    refine wp_iload rfl rfl ?_
    refine wp_aload rfl rfl ?_
    refine wp_aload rfl rfl ?_
    refine wp_iload rfl rfl ?_
    refine wp_iconst rfl ?_
    refine wp_iadd rfl ?_
    have g2 := H.1
    replace H := H.2
    refine Wp.topI (y := (x2 + 1)) (w32_I g2) ?_
    refine wp_iload rfl rfl ?_
    refine wp_iconst rfl ?_
    refine wp_iload rfl rfl ?_
    refine wp_ishl rfl ?_
    refine wp_ior rfl ?_
    refine wp_iload rfl rfl ?_
    refine wp_iload rfl rfl ?_
    refine wp_iadd rfl ?_
    have g3 := H.1
    replace H := H.2
    refine Wp.topI (y := (x4 + 0)) (w32_I g3) ?_
    have g4 := H.1
    replace H := H.2
    exact wp_call (k := 185) (ρ2 := (4 + Int.toNat (8 - (x2 + 1)))) (L2 := [vr 61, vr 53, vi (x2 + 1), vi ((i32 x3 ||| i32 ((i32 1 <<< (i32 x7 &&& 31)).toInt)).toInt), vi (x4 + 0), vu, vu, vu, vu]) rfl rfl rfl g4 (Nat.le_of_ble_eq_true rfl) (Nat.le_of_ble_eq_true rfl) (rcv_S rfl) rfl H
  · replace H := H.2 c1
    refine wp_iconst rfl ?_
    refine wp_goto (tn := 137) rfl rfl ?_
    refine wp_istore (L2 := [vr 61, vr 53, vi x2, vi x3, vi x4, zx5, vi x6, vi x7, vi 1]) rfl (Nat.le_of_ble_eq_true rfl) rfl ?_
    refine wp_iload rfl rfl ?_
    refine wp_aload rfl rfl ?_
    refine wp_aload rfl rfl ?_
    refine wp_iload rfl rfl ?_
    refine wp_iconst rfl ?_
    refine wp_iadd rfl ?_
    have g5 := H.1
    replace H := H.2
    refine Wp.topI (y := (x2 + 1)) (w32_I g5) ?_
    refine wp_iload rfl rfl ?_
    refine wp_iconst rfl ?_
    refine wp_iload rfl rfl ?_
    refine wp_ishl rfl ?_
    refine wp_ior rfl ?_
    refine wp_iload rfl rfl ?_
    refine wp_iload rfl rfl ?_
    refine wp_iadd rfl ?_
    have g6 := H.1
    replace H := H.2
    refine Wp.topI (y := (x4 + 1)) (w32_I g6) ?_
    have g7 := H.1
    replace H := H.2
    exact wp_call (k := 185) (ρ2 := (4 + Int.toNat (8 - (x2 + 1)))) (L2 := [vr 61, vr 53, vi (x2 + 1), vi ((i32 x3 ||| i32 ((i32 1 <<< (i32 x7 &&& 31)).toInt)).toInt), vi (x4 + 1), vu, vu, vu, vu]) rfl rfl rfl g7 (Nat.le_of_ble_eq_true rfl) (Nat.le_of_ble_eq_true rfl) (rcv_S rfl) rfl H
/-- Orders.enoughWarn(L$Orders;L$RuleText;III)I, from 160 -/
theorem S185_61_53_160 {X : Nat × (Int → Int)} {h : HP} {Q : bQ} {ρ : Nat} (hρ : 4 < ρ) (x2 : Int) (x3 : Int) (x4 : Int) (zx5 : aV) (zx6 : aV) (x7 : Int) (zx8 : aV) (s0 : Int) (s1 : Int) (H : ((R32 (s1 + s0)) ∧ ((R32 (x7 + 1)) ∧ Wp X ρ 185 57 [vr 61, vr 53, vi x2, vi x3, vi x4, (clr1 zx5), vi (s1 + s0), vi (x7 + 1), zx8] [] h Q))) : Wp X ρ 185 160 [vr 61, vr 53, vi x2, vi x3, vi x4, zx5, zx6, vi x7, zx8] [vi s0, vi s1] h Q := by
  refine wp_iadd rfl ?_
  have g1 := H.1
  replace H := H.2
  refine Wp.topI (y := (s1 + s0)) (w32_I g1) ?_
  refine wp_istore (L2 := [vr 61, vr 53, vi x2, vi x3, vi x4, (clr1 zx5), vi (s1 + s0), vi x7, zx8]) rfl (Nat.le_of_ble_eq_true rfl) rfl ?_
  have g2 := H.1
  replace H := H.2
  refine wp_iincR (L2 := [vr 61, vr 53, vi x2, vi x3, vi x4, (clr1 zx5), vi (s1 + s0), vi (x7 + 1), zx8]) rfl rfl g2 rfl ?_
  refine wp_goto (tn := 57) rfl rfl ?_
  exact H
/-- Row.placeOf(I)I, from 0 -/
theorem S195_37_0 {X : Nat × (Int → Int)} {h : HP} {Q : bQ} (x1 : Int) (H : Wp X 0 195 2 [vr 37, vi x1, vi 0] [] h Q) : Wp X 0 195 0 [vr 37, vi x1, vu] [] h Q := by
  refine wp_iconst rfl ?_
  refine wp_istore (L2 := [vr 37, vi x1, vi 0]) rfl (Nat.le_of_ble_eq_true rfl) rfl ?_
  exact H
/-- Row.placeOf(I)I, from 2 -/
theorem S195_37_2 {X : Nat × (Int → Int)} {h : HP} {Q : bQ} (x1 : Int) (x2 : Int) (H : (((h 37 6) ≤ x2 → Q (some (vi (-1))) h) ∧ (x2 < (h 37 6) → ((0 ≤ x2 ∧ x2 < 20) ∧ (((h 38 x2) ≠ x1 → Wp X 0 195 2 [vr 37, vi x1, vi (x2 + 1)] [] h Q) ∧ ((h 38 x2) = x1 → Q (some (vi x2)) h)))))) : Wp X 0 195 2 [vr 37, vi x1, vi x2] [] h Q := by
  refine wp_iload rfl rfl ?_
  refine wp_aload rfl rfl ?_
  refine wp_getI (j := 6) rfl (congrArg Prod.fst (kf_37 X.1)) rfl ?_
  refine wp_icge (tn := 28) rfl rfl (fun c1 => ?_) (fun c1 => ?_)
  · replace H := H.1 c1
    refine wp_iconst rfl ?_
    exact wp_iret rfl rfl H
  · replace H := H.2 c1
    refine wp_aload rfl rfl ?_
    refine wp_getR (r := 37) rfl (congrArg Prod.fst (kf_37 X.1)) rfl ?_
    refine wp_iload rfl rfl ?_
    have g2 := H.1
    replace H := H.2
    refine wp_iaload rfl (kf_38 X.1) g2 ?_
    refine wp_iload rfl rfl ?_
    refine wp_icne (tn := 22) rfl rfl (fun c3 => ?_) (fun c3 => ?_)
    · replace H := H.1 c3
      refine wp_iincR (L2 := [vr 37, vi x1, vi (x2 + 1)]) rfl rfl (by clear H; unfold R32; omega) rfl ?_
      refine wp_goto (tn := 2) rfl rfl ?_
      exact H
    · replace H := H.2 c3
      refine wp_iload rfl rfl ?_
      exact wp_iret rfl rfl H
/-- Row.append(III)V, from 0 -/
theorem S198_37_0 {X : Nat × (Int → Int)} {h : HP} {Q : bQ} (x1 : Int) (x2 : Int) (x3 : Int) (H : (((h 37 6) < 0 → Q none h) ∧ (0 ≤ (h 37 6) → (((h 37 6) < 20 → (((h 37 6) = 0 → Q none (upd2 (upd2 (upd2 (upd2 (upd2 (upd2 (upd2 h 38 (h 37 6) x1) 39 (h 37 6) x2) 40 (h 37 6) x3) 41 (h 37 6) 0) 42 (h 37 6) 1) 43 (h 37 6) 1) 37 6 ((h 37 6) + 1))) ∧ ((h 37 6) ≠ 0 → ((0 ≤ ((h 37 6) - 1) ∧ ((h 37 6) - 1) < 20) ∧ ((x2 ≠ (h 39 ((h 37 6) - 1)) → ((x2 ≤ (h 39 ((h 37 6) - 1)) → (((-1) ≠ (h 41 ((h 37 6) - 1)) → ((R32 ((h 43 ((h 37 6) - 1)) + 1)) ∧ Q none (upd2 (upd2 (upd2 (upd2 (upd2 (upd2 (upd2 h 38 (h 37 6) x1) 39 (h 37 6) x2) 40 (h 37 6) x3) 41 (h 37 6) (-1)) 42 (h 37 6) 2) 43 (h 37 6) ((h 43 ((h 37 6) - 1)) + 1)) 37 6 ((h 37 6) + 1)))) ∧ ((-1) = (h 41 ((h 37 6) - 1)) → ((R32 ((h 42 ((h 37 6) - 1)) + 1)) ∧ Q none (upd2 (upd2 (upd2 (upd2 (upd2 (upd2 (upd2 h 38 (h 37 6) x1) 39 (h 37 6) x2) 40 (h 37 6) x3) 41 (h 37 6) (-1)) 42 (h 37 6) ((h 42 ((h 37 6) - 1)) + 1)) 43 (h 37 6) 2) 37 6 ((h 37 6) + 1)))))) ∧ ((h 39 ((h 37 6) - 1)) < x2 → ((1 ≠ (h 41 ((h 37 6) - 1)) → ((R32 ((h 43 ((h 37 6) - 1)) + 1)) ∧ Q none (upd2 (upd2 (upd2 (upd2 (upd2 (upd2 (upd2 h 38 (h 37 6) x1) 39 (h 37 6) x2) 40 (h 37 6) x3) 41 (h 37 6) 1) 42 (h 37 6) 2) 43 (h 37 6) ((h 43 ((h 37 6) - 1)) + 1)) 37 6 ((h 37 6) + 1)))) ∧ (1 = (h 41 ((h 37 6) - 1)) → ((R32 ((h 42 ((h 37 6) - 1)) + 1)) ∧ Q none (upd2 (upd2 (upd2 (upd2 (upd2 (upd2 (upd2 h 38 (h 37 6) x1) 39 (h 37 6) x2) 40 (h 37 6) x3) 41 (h 37 6) 1) 42 (h 37 6) ((h 42 ((h 37 6) - 1)) + 1)) 43 (h 37 6) 2) 37 6 ((h 37 6) + 1)))))))) ∧ (x2 = (h 39 ((h 37 6) - 1)) → Q none (upd2 (upd2 (upd2 (upd2 (upd2 (upd2 (upd2 h 38 (h 37 6) x1) 39 (h 37 6) x2) 40 (h 37 6) x3) 41 (h 37 6) 0) 42 (h 37 6) 1) 43 (h 37 6) 1) 37 6 ((h 37 6) + 1)))))))) ∧ (20 ≤ (h 37 6) → Q none h))))) : Wp X 0 198 0 [vr 37, vi x1, vi x2, vi x3, vu, vu] [] h Q := by
  refine wp_aload rfl rfl ?_
  refine wp_getI (j := 6) rfl (congrArg Prod.fst (kf_37 X.1)) rfl ?_
  refine wp_istore (L2 := [vr 37, vi x1, vi x2, vi x3, vi (h 37 6), vu]) rfl (Nat.le_of_ble_eq_true rfl) rfl ?_
  refine wp_iload rfl rfl ?_
  refine wp_iflt (tn := 18) rfl rfl (fun c1 => ?_) (fun c1 => ?_)
  · replace H := H.1 c1
    exact wp_vret rfl rfl H
  · replace H := H.2 c1
    refine wp_iload rfl rfl ?_
    refine wp_iconst rfl ?_
    refine wp_iclt (tn := 19) rfl rfl (fun c2 => ?_) (fun c2 => ?_)
    · replace H := H.1 c2
      refine wp_aload rfl rfl ?_
      refine wp_getR (r := 37) rfl (congrArg Prod.fst (kf_37 X.1)) rfl ?_
      refine wp_iload rfl rfl ?_
      refine wp_iload rfl rfl ?_
      refine wp_iastore rfl (kf_38 X.1) ⟨c1, c2⟩ ?_
      refine wp_aload rfl rfl ?_
      refine wp_getR (r := 38) rfl (congrArg Prod.fst (kf_37 X.1)) rfl ?_
      refine wp_iload rfl rfl ?_
      refine wp_iload rfl rfl ?_
      refine wp_iastore rfl (kf_39 X.1) ⟨c1, c2⟩ ?_
      refine wp_aload rfl rfl ?_
      refine wp_getR (r := 39) rfl (congrArg Prod.fst (kf_37 X.1)) rfl ?_
      refine wp_iload rfl rfl ?_
      refine wp_iload rfl rfl ?_
      refine wp_iastore rfl (kf_40 X.1) ⟨c1, c2⟩ ?_
      refine wp_iload rfl rfl ?_
      refine wp_ifeq (tn := 67) rfl rfl (fun c3 => ?_) (fun c3 => ?_)
      · replace H := H.1 c3
        refine wp_aload rfl rfl ?_
        refine wp_getR (r := 40) rfl (congrArg Prod.fst (kf_37 X.1)) rfl ?_
        refine wp_iload rfl rfl ?_
        refine wp_iconst rfl ?_
        refine wp_iastore rfl (kf_41 X.1) ⟨c1, c2⟩ ?_
        refine wp_aload rfl rfl ?_
        refine wp_getR (r := 41) rfl (congrArg Prod.fst (kf_37 X.1)) rfl ?_
        refine wp_iload rfl rfl ?_
        refine wp_iconst rfl ?_
        refine wp_iastore rfl (kf_42 X.1) ⟨c1, c2⟩ ?_
        refine wp_aload rfl rfl ?_
        refine wp_getR (r := 42) rfl (congrArg Prod.fst (kf_37 X.1)) rfl ?_
        refine wp_iload rfl rfl ?_
        refine wp_iconst rfl ?_
        refine wp_iastore rfl (kf_43 X.1) ⟨c1, c2⟩ ?_
        refine wp_goto (tn := 205) rfl rfl ?_
        refine wp_aload rfl rfl ?_
        refine wp_dupR rfl ?_
        refine wp_getI (j := 6) rfl (congrArg Prod.fst (kf_37 X.1)) rfl ?_
        refine Wp.topI (y := (h 37 6)) (congrFun ((upd2_ne (by decide)).trans ((upd2_ne (by decide)).trans ((upd2_ne (by decide)).trans ((upd2_ne (by decide)).trans ((upd2_ne (by decide)).trans (upd2_ne (by decide))))))) _) ?_
        refine wp_iconst rfl ?_
        refine wp_iadd rfl ?_
        refine Wp.topI (y := ((h 37 6) + 1)) (w32_I (by clear H; unfold R32; omega)) ?_
        refine wp_putI (j := 6) rfl (congrArg Prod.fst (kf_37 X.1)) rfl rfl rfl ?_
        exact wp_vret rfl rfl H
      · replace H := H.2 c3
        refine wp_aload rfl rfl ?_
        refine wp_getR (r := 38) rfl (congrArg Prod.fst (kf_37 X.1)) rfl ?_
        refine wp_iload rfl rfl ?_
        refine wp_iaload rfl (kf_39 X.1) ⟨c1, c2⟩ ?_
        refine Wp.topI (y := x2) ((congrFun ((upd2_ne (by decide)).trans (upd2_cg (upd2_ne (by decide)))) _).trans upd2_s) ?_
        refine wp_aload rfl rfl ?_
        refine wp_getR (r := 38) rfl (congrArg Prod.fst (kf_37 X.1)) rfl ?_
        refine wp_iload rfl rfl ?_
        refine wp_iconst rfl ?_
        refine wp_isub rfl ?_
        refine Wp.topI (y := ((h 37 6) - 1)) (w32_I (by clear H; unfold R32; omega)) ?_
        have g4 := H.1
        replace H := H.2
        refine wp_iaload rfl (kf_39 X.1) g4 ?_
        refine Wp.topI (y := (h 39 ((h 37 6) - 1))) ((congrFun ((upd2_ne (by decide)).trans (upd2_cg (upd2_ne (by decide)))) _).trans (upd2_o (by clear H; omega))) ?_
        refine wp_icne (tn := 94) rfl rfl (fun c5 => ?_) (fun c5 => ?_)
        · replace H := H.1 c5
          refine wp_aload rfl rfl ?_
          refine wp_getR (r := 40) rfl (congrArg Prod.fst (kf_37 X.1)) rfl ?_
          refine wp_iload rfl rfl ?_
          refine wp_aload rfl rfl ?_
          refine wp_getR (r := 38) rfl (congrArg Prod.fst (kf_37 X.1)) rfl ?_
          refine wp_iload rfl rfl ?_
          refine wp_iaload rfl (kf_39 X.1) ⟨c1, c2⟩ ?_
          refine Wp.topI (y := x2) ((congrFun ((upd2_ne (by decide)).trans (upd2_cg (upd2_ne (by decide)))) _).trans upd2_s) ?_
          refine wp_aload rfl rfl ?_
          refine wp_getR (r := 38) rfl (congrArg Prod.fst (kf_37 X.1)) rfl ?_
          refine wp_iload rfl rfl ?_
          refine wp_iconst rfl ?_
          refine wp_isub rfl ?_
          refine Wp.topI (y := ((h 37 6) - 1)) (w32_I (by clear H; unfold R32; omega)) ?_
          refine wp_iaload rfl (kf_39 X.1) ⟨g4.1, g4.2⟩ ?_
          refine Wp.topI (y := (h 39 ((h 37 6) - 1))) ((congrFun ((upd2_ne (by decide)).trans (upd2_cg (upd2_ne (by decide)))) _).trans (upd2_o (by clear H; omega))) ?_
          refine wp_icle (tn := 123) rfl rfl (fun c6 => ?_) (fun c6 => ?_)
          · replace H := H.1 c6
            refine wp_iconst rfl ?_
            refine wp_iastore rfl (kf_41 X.1) ⟨c1, c2⟩ ?_
            refine wp_aload rfl rfl ?_
            refine wp_getR (r := 40) rfl (congrArg Prod.fst (kf_37 X.1)) rfl ?_
            refine wp_iload rfl rfl ?_
            refine wp_iaload rfl (kf_41 X.1) ⟨c1, c2⟩ ?_
            refine Wp.topI (y := (-1)) ((congrFun (upd2_cg ((upd2_ne (by decide)).trans ((upd2_ne (by decide)).trans (upd2_ne (by decide))))) _).trans upd2_s) ?_
            refine wp_aload rfl rfl ?_
            refine wp_getR (r := 40) rfl (congrArg Prod.fst (kf_37 X.1)) rfl ?_
            refine wp_iload rfl rfl ?_
            refine wp_iconst rfl ?_
            refine wp_isub rfl ?_
            refine Wp.topI (y := ((h 37 6) - 1)) (w32_I (by clear H; unfold R32; omega)) ?_
            refine wp_iaload rfl (kf_41 X.1) ⟨g4.1, g4.2⟩ ?_
            refine Wp.topI (y := (h 41 ((h 37 6) - 1))) ((congrFun (upd2_cg ((upd2_ne (by decide)).trans ((upd2_ne (by decide)).trans (upd2_ne (by decide))))) _).trans (upd2_o (by clear H; omega))) ?_
            refine wp_icne (tn := 148) rfl rfl (fun c7 => ?_) (fun c7 => ?_)
            · replace H := H.1 c7
              refine wp_iconst rfl ?_
              refine wp_istore (L2 := [vr 37, vi x1, vi x2, vi x3, vi (h 37 6), vi 0]) rfl (Nat.le_of_ble_eq_true rfl) rfl ?_
              refine wp_aload rfl rfl ?_
              refine wp_getR (r := 41) rfl (congrArg Prod.fst (kf_37 X.1)) rfl ?_
              refine wp_iload rfl rfl ?_
              refine wp_iload rfl rfl ?_
              refine wp_ifeqT (tn := 176) rfl rfl (by decide) ?_
              refine wp_iconst rfl ?_
              refine wp_iastore rfl (kf_42 X.1) ⟨c1, c2⟩ ?_
              refine wp_aload rfl rfl ?_
              refine wp_getR (r := 42) rfl (congrArg Prod.fst (kf_37 X.1)) rfl ?_
              refine wp_iload rfl rfl ?_
              refine wp_iload rfl rfl ?_
              refine wp_ifeqT (tn := 193) rfl rfl (by decide) ?_
              refine wp_aload rfl rfl ?_
              refine wp_getR (r := 42) rfl (congrArg Prod.fst (kf_37 X.1)) rfl ?_
              refine wp_iload rfl rfl ?_
              refine wp_iconst rfl ?_
              refine wp_isub rfl ?_
              refine Wp.topI (y := ((h 37 6) - 1)) (w32_I (by clear H; unfold R32; omega)) ?_
              refine wp_iaload rfl (kf_43 X.1) ⟨g4.1, g4.2⟩ ?_
              refine Wp.topI (y := (h 43 ((h 37 6) - 1))) (congrFun ((upd2_ne (by decide)).trans ((upd2_ne (by decide)).trans ((upd2_ne (by decide)).trans ((upd2_ne (by decide)).trans (upd2_ne (by decide)))))) _) ?_
              refine wp_iconst rfl ?_
              refine wp_iadd rfl ?_
              have g8 := H.1
              replace H := H.2
              refine Wp.topI (y := ((h 43 ((h 37 6) - 1)) + 1)) (w32_I g8) ?_
              refine wp_iastore rfl (kf_43 X.1) ⟨c1, c2⟩ ?_
              refine wp_aload rfl rfl ?_
              refine wp_dupR rfl ?_
              refine wp_getI (j := 6) rfl (congrArg Prod.fst (kf_37 X.1)) rfl ?_
              refine Wp.topI (y := (h 37 6)) (congrFun ((upd2_ne (by decide)).trans ((upd2_ne (by decide)).trans ((upd2_ne (by decide)).trans ((upd2_ne (by decide)).trans ((upd2_ne (by decide)).trans (upd2_ne (by decide))))))) _) ?_
              refine wp_iconst rfl ?_
              refine wp_iadd rfl ?_
              refine Wp.topI (y := ((h 37 6) + 1)) (w32_I (by clear H; unfold R32; omega)) ?_
              refine wp_putI (j := 6) rfl (congrArg Prod.fst (kf_37 X.1)) rfl rfl rfl ?_
              exact wp_vret rfl rfl H
            · replace H := H.2 c7
              refine wp_iconst rfl ?_
              refine wp_goto (tn := 149) rfl rfl ?_
              refine wp_istore (L2 := [vr 37, vi x1, vi x2, vi x3, vi (h 37 6), vi 1]) rfl (Nat.le_of_ble_eq_true rfl) rfl ?_
              refine wp_aload rfl rfl ?_
              refine wp_getR (r := 41) rfl (congrArg Prod.fst (kf_37 X.1)) rfl ?_
              refine wp_iload rfl rfl ?_
              refine wp_iload rfl rfl ?_
              refine wp_ifeqF (tn := 176) rfl rfl (by decide) ?_
              refine wp_aload rfl rfl ?_
              refine wp_getR (r := 41) rfl (congrArg Prod.fst (kf_37 X.1)) rfl ?_
              refine wp_iload rfl rfl ?_
              refine wp_iconst rfl ?_
              refine wp_isub rfl ?_
              refine Wp.topI (y := ((h 37 6) - 1)) (w32_I (by clear H; unfold R32; omega)) ?_
              refine wp_iaload rfl (kf_42 X.1) ⟨g4.1, g4.2⟩ ?_
              refine Wp.topI (y := (h 42 ((h 37 6) - 1))) (congrFun ((upd2_ne (by decide)).trans ((upd2_ne (by decide)).trans ((upd2_ne (by decide)).trans (upd2_ne (by decide))))) _) ?_
              refine wp_iconst rfl ?_
              refine wp_iadd rfl ?_
              have g9 := H.1
              replace H := H.2
              refine Wp.topI (y := ((h 42 ((h 37 6) - 1)) + 1)) (w32_I g9) ?_
              refine wp_goto (tn := 177) rfl rfl ?_
              refine wp_iastore rfl (kf_42 X.1) ⟨c1, c2⟩ ?_
              refine wp_aload rfl rfl ?_
              refine wp_getR (r := 42) rfl (congrArg Prod.fst (kf_37 X.1)) rfl ?_
              refine wp_iload rfl rfl ?_
              refine wp_iload rfl rfl ?_
              refine wp_ifeqF (tn := 193) rfl rfl (by decide) ?_
              refine wp_iconst rfl ?_
              refine wp_goto (tn := 204) rfl rfl ?_
              refine wp_iastore rfl (kf_43 X.1) ⟨c1, c2⟩ ?_
              refine wp_aload rfl rfl ?_
              refine wp_dupR rfl ?_
              refine wp_getI (j := 6) rfl (congrArg Prod.fst (kf_37 X.1)) rfl ?_
              refine Wp.topI (y := (h 37 6)) (congrFun ((upd2_ne (by decide)).trans ((upd2_ne (by decide)).trans ((upd2_ne (by decide)).trans ((upd2_ne (by decide)).trans ((upd2_ne (by decide)).trans (upd2_ne (by decide))))))) _) ?_
              refine wp_iconst rfl ?_
              refine wp_iadd rfl ?_
              refine Wp.topI (y := ((h 37 6) + 1)) (w32_I (by clear H; unfold R32; omega)) ?_
              refine wp_putI (j := 6) rfl (congrArg Prod.fst (kf_37 X.1)) rfl rfl rfl ?_
              exact wp_vret rfl rfl H
          · replace H := H.2 c6
            refine wp_iconst rfl ?_
            refine wp_goto (tn := 124) rfl rfl ?_
            refine wp_iastore rfl (kf_41 X.1) ⟨c1, c2⟩ ?_
            refine wp_aload rfl rfl ?_
            refine wp_getR (r := 40) rfl (congrArg Prod.fst (kf_37 X.1)) rfl ?_
            refine wp_iload rfl rfl ?_
            refine wp_iaload rfl (kf_41 X.1) ⟨c1, c2⟩ ?_
            refine Wp.topI (y := 1) ((congrFun (upd2_cg ((upd2_ne (by decide)).trans ((upd2_ne (by decide)).trans (upd2_ne (by decide))))) _).trans upd2_s) ?_
            refine wp_aload rfl rfl ?_
            refine wp_getR (r := 40) rfl (congrArg Prod.fst (kf_37 X.1)) rfl ?_
            refine wp_iload rfl rfl ?_
            refine wp_iconst rfl ?_
            refine wp_isub rfl ?_
            refine Wp.topI (y := ((h 37 6) - 1)) (w32_I (by clear H; unfold R32; omega)) ?_
            refine wp_iaload rfl (kf_41 X.1) ⟨g4.1, g4.2⟩ ?_
            refine Wp.topI (y := (h 41 ((h 37 6) - 1))) ((congrFun (upd2_cg ((upd2_ne (by decide)).trans ((upd2_ne (by decide)).trans (upd2_ne (by decide))))) _).trans (upd2_o (by clear H; omega))) ?_
            refine wp_icne (tn := 148) rfl rfl (fun c10 => ?_) (fun c10 => ?_)
            · replace H := H.1 c10
              refine wp_iconst rfl ?_
              refine wp_istore (L2 := [vr 37, vi x1, vi x2, vi x3, vi (h 37 6), vi 0]) rfl (Nat.le_of_ble_eq_true rfl) rfl ?_
              refine wp_aload rfl rfl ?_
              refine wp_getR (r := 41) rfl (congrArg Prod.fst (kf_37 X.1)) rfl ?_
              refine wp_iload rfl rfl ?_
              refine wp_iload rfl rfl ?_
              refine wp_ifeqT (tn := 176) rfl rfl (by decide) ?_
              refine wp_iconst rfl ?_
              refine wp_iastore rfl (kf_42 X.1) ⟨c1, c2⟩ ?_
              refine wp_aload rfl rfl ?_
              refine wp_getR (r := 42) rfl (congrArg Prod.fst (kf_37 X.1)) rfl ?_
              refine wp_iload rfl rfl ?_
              refine wp_iload rfl rfl ?_
              refine wp_ifeqT (tn := 193) rfl rfl (by decide) ?_
              refine wp_aload rfl rfl ?_
              refine wp_getR (r := 42) rfl (congrArg Prod.fst (kf_37 X.1)) rfl ?_
              refine wp_iload rfl rfl ?_
              refine wp_iconst rfl ?_
              refine wp_isub rfl ?_
              refine Wp.topI (y := ((h 37 6) - 1)) (w32_I (by clear H; unfold R32; omega)) ?_
              refine wp_iaload rfl (kf_43 X.1) ⟨g4.1, g4.2⟩ ?_
              refine Wp.topI (y := (h 43 ((h 37 6) - 1))) (congrFun ((upd2_ne (by decide)).trans ((upd2_ne (by decide)).trans ((upd2_ne (by decide)).trans ((upd2_ne (by decide)).trans (upd2_ne (by decide)))))) _) ?_
              refine wp_iconst rfl ?_
              refine wp_iadd rfl ?_
              have g11 := H.1
              replace H := H.2
              refine Wp.topI (y := ((h 43 ((h 37 6) - 1)) + 1)) (w32_I g11) ?_
              refine wp_iastore rfl (kf_43 X.1) ⟨c1, c2⟩ ?_
              refine wp_aload rfl rfl ?_
              refine wp_dupR rfl ?_
              refine wp_getI (j := 6) rfl (congrArg Prod.fst (kf_37 X.1)) rfl ?_
              refine Wp.topI (y := (h 37 6)) (congrFun ((upd2_ne (by decide)).trans ((upd2_ne (by decide)).trans ((upd2_ne (by decide)).trans ((upd2_ne (by decide)).trans ((upd2_ne (by decide)).trans (upd2_ne (by decide))))))) _) ?_
              refine wp_iconst rfl ?_
              refine wp_iadd rfl ?_
              refine Wp.topI (y := ((h 37 6) + 1)) (w32_I (by clear H; unfold R32; omega)) ?_
              refine wp_putI (j := 6) rfl (congrArg Prod.fst (kf_37 X.1)) rfl rfl rfl ?_
              exact wp_vret rfl rfl H
            · replace H := H.2 c10
              refine wp_iconst rfl ?_
              refine wp_goto (tn := 149) rfl rfl ?_
              refine wp_istore (L2 := [vr 37, vi x1, vi x2, vi x3, vi (h 37 6), vi 1]) rfl (Nat.le_of_ble_eq_true rfl) rfl ?_
              refine wp_aload rfl rfl ?_
              refine wp_getR (r := 41) rfl (congrArg Prod.fst (kf_37 X.1)) rfl ?_
              refine wp_iload rfl rfl ?_
              refine wp_iload rfl rfl ?_
              refine wp_ifeqF (tn := 176) rfl rfl (by decide) ?_
              refine wp_aload rfl rfl ?_
              refine wp_getR (r := 41) rfl (congrArg Prod.fst (kf_37 X.1)) rfl ?_
              refine wp_iload rfl rfl ?_
              refine wp_iconst rfl ?_
              refine wp_isub rfl ?_
              refine Wp.topI (y := ((h 37 6) - 1)) (w32_I (by clear H; unfold R32; omega)) ?_
              refine wp_iaload rfl (kf_42 X.1) ⟨g4.1, g4.2⟩ ?_
              refine Wp.topI (y := (h 42 ((h 37 6) - 1))) (congrFun ((upd2_ne (by decide)).trans ((upd2_ne (by decide)).trans ((upd2_ne (by decide)).trans (upd2_ne (by decide))))) _) ?_
              refine wp_iconst rfl ?_
              refine wp_iadd rfl ?_
              have g12 := H.1
              replace H := H.2
              refine Wp.topI (y := ((h 42 ((h 37 6) - 1)) + 1)) (w32_I g12) ?_
              refine wp_goto (tn := 177) rfl rfl ?_
              refine wp_iastore rfl (kf_42 X.1) ⟨c1, c2⟩ ?_
              refine wp_aload rfl rfl ?_
              refine wp_getR (r := 42) rfl (congrArg Prod.fst (kf_37 X.1)) rfl ?_
              refine wp_iload rfl rfl ?_
              refine wp_iload rfl rfl ?_
              refine wp_ifeqF (tn := 193) rfl rfl (by decide) ?_
              refine wp_iconst rfl ?_
              refine wp_goto (tn := 204) rfl rfl ?_
              refine wp_iastore rfl (kf_43 X.1) ⟨c1, c2⟩ ?_
              refine wp_aload rfl rfl ?_
              refine wp_dupR rfl ?_
              refine wp_getI (j := 6) rfl (congrArg Prod.fst (kf_37 X.1)) rfl ?_
              refine Wp.topI (y := (h 37 6)) (congrFun ((upd2_ne (by decide)).trans ((upd2_ne (by decide)).trans ((upd2_ne (by decide)).trans ((upd2_ne (by decide)).trans ((upd2_ne (by decide)).trans (upd2_ne (by decide))))))) _) ?_
              refine wp_iconst rfl ?_
              refine wp_iadd rfl ?_
              refine Wp.topI (y := ((h 37 6) + 1)) (w32_I (by clear H; unfold R32; omega)) ?_
              refine wp_putI (j := 6) rfl (congrArg Prod.fst (kf_37 X.1)) rfl rfl rfl ?_
              exact wp_vret rfl rfl H
        · replace H := H.2 c5
          refine wp_aload rfl rfl ?_
          refine wp_getR (r := 40) rfl (congrArg Prod.fst (kf_37 X.1)) rfl ?_
          refine wp_iload rfl rfl ?_
          refine wp_iconst rfl ?_
          refine wp_iastore rfl (kf_41 X.1) ⟨c1, c2⟩ ?_
          refine wp_aload rfl rfl ?_
          refine wp_getR (r := 41) rfl (congrArg Prod.fst (kf_37 X.1)) rfl ?_
          refine wp_iload rfl rfl ?_
          refine wp_iconst rfl ?_
          refine wp_iastore rfl (kf_42 X.1) ⟨c1, c2⟩ ?_
          refine wp_aload rfl rfl ?_
          refine wp_getR (r := 42) rfl (congrArg Prod.fst (kf_37 X.1)) rfl ?_
          refine wp_iload rfl rfl ?_
          refine wp_iconst rfl ?_
          refine wp_iastore rfl (kf_43 X.1) ⟨c1, c2⟩ ?_
          refine wp_goto (tn := 205) rfl rfl ?_
          refine wp_aload rfl rfl ?_
          refine wp_dupR rfl ?_
          refine wp_getI (j := 6) rfl (congrArg Prod.fst (kf_37 X.1)) rfl ?_
          refine Wp.topI (y := (h 37 6)) (congrFun ((upd2_ne (by decide)).trans ((upd2_ne (by decide)).trans ((upd2_ne (by decide)).trans ((upd2_ne (by decide)).trans ((upd2_ne (by decide)).trans (upd2_ne (by decide))))))) _) ?_
          refine wp_iconst rfl ?_
          refine wp_iadd rfl ?_
          refine Wp.topI (y := ((h 37 6) + 1)) (w32_I (by clear H; unfold R32; omega)) ?_
          refine wp_putI (j := 6) rfl (congrArg Prod.fst (kf_37 X.1)) rfl rfl rfl ?_
          exact wp_vret rfl rfl H
    · replace H := H.2 c2
      exact wp_vret rfl rfl H
/-- Row.append(III)V, from 0 -/
theorem S198_62_0 {X : Nat × (Int → Int)} {h : HP} {Q : bQ} (x1 : Int) (x2 : Int) (x3 : Int) (H : (((h 62 6) < 0 → Q none h) ∧ (0 ≤ (h 62 6) → (((h 62 6) < 20 → (((h 62 6) = 0 → Q none (upd2 (upd2 (upd2 (upd2 (upd2 (upd2 (upd2 h 63 (h 62 6) x1) 64 (h 62 6) x2) 65 (h 62 6) x3) 66 (h 62 6) 0) 67 (h 62 6) 1) 68 (h 62 6) 1) 62 6 ((h 62 6) + 1))) ∧ ((h 62 6) ≠ 0 → ((0 ≤ ((h 62 6) - 1) ∧ ((h 62 6) - 1) < 20) ∧ ((x2 ≠ (h 64 ((h 62 6) - 1)) → ((x2 ≤ (h 64 ((h 62 6) - 1)) → (((-1) ≠ (h 66 ((h 62 6) - 1)) → ((R32 ((h 68 ((h 62 6) - 1)) + 1)) ∧ Q none (upd2 (upd2 (upd2 (upd2 (upd2 (upd2 (upd2 h 63 (h 62 6) x1) 64 (h 62 6) x2) 65 (h 62 6) x3) 66 (h 62 6) (-1)) 67 (h 62 6) 2) 68 (h 62 6) ((h 68 ((h 62 6) - 1)) + 1)) 62 6 ((h 62 6) + 1)))) ∧ ((-1) = (h 66 ((h 62 6) - 1)) → ((R32 ((h 67 ((h 62 6) - 1)) + 1)) ∧ Q none (upd2 (upd2 (upd2 (upd2 (upd2 (upd2 (upd2 h 63 (h 62 6) x1) 64 (h 62 6) x2) 65 (h 62 6) x3) 66 (h 62 6) (-1)) 67 (h 62 6) ((h 67 ((h 62 6) - 1)) + 1)) 68 (h 62 6) 2) 62 6 ((h 62 6) + 1)))))) ∧ ((h 64 ((h 62 6) - 1)) < x2 → ((1 ≠ (h 66 ((h 62 6) - 1)) → ((R32 ((h 68 ((h 62 6) - 1)) + 1)) ∧ Q none (upd2 (upd2 (upd2 (upd2 (upd2 (upd2 (upd2 h 63 (h 62 6) x1) 64 (h 62 6) x2) 65 (h 62 6) x3) 66 (h 62 6) 1) 67 (h 62 6) 2) 68 (h 62 6) ((h 68 ((h 62 6) - 1)) + 1)) 62 6 ((h 62 6) + 1)))) ∧ (1 = (h 66 ((h 62 6) - 1)) → ((R32 ((h 67 ((h 62 6) - 1)) + 1)) ∧ Q none (upd2 (upd2 (upd2 (upd2 (upd2 (upd2 (upd2 h 63 (h 62 6) x1) 64 (h 62 6) x2) 65 (h 62 6) x3) 66 (h 62 6) 1) 67 (h 62 6) ((h 67 ((h 62 6) - 1)) + 1)) 68 (h 62 6) 2) 62 6 ((h 62 6) + 1)))))))) ∧ (x2 = (h 64 ((h 62 6) - 1)) → Q none (upd2 (upd2 (upd2 (upd2 (upd2 (upd2 (upd2 h 63 (h 62 6) x1) 64 (h 62 6) x2) 65 (h 62 6) x3) 66 (h 62 6) 0) 67 (h 62 6) 1) 68 (h 62 6) 1) 62 6 ((h 62 6) + 1)))))))) ∧ (20 ≤ (h 62 6) → Q none h))))) : Wp X 0 198 0 [vr 62, vi x1, vi x2, vi x3, vu, vu] [] h Q := by
  refine wp_aload rfl rfl ?_
  refine wp_getI (j := 6) rfl (congrArg Prod.fst (kf_62 X.1)) rfl ?_
  refine wp_istore (L2 := [vr 62, vi x1, vi x2, vi x3, vi (h 62 6), vu]) rfl (Nat.le_of_ble_eq_true rfl) rfl ?_
  refine wp_iload rfl rfl ?_
  refine wp_iflt (tn := 18) rfl rfl (fun c1 => ?_) (fun c1 => ?_)
  · replace H := H.1 c1
    exact wp_vret rfl rfl H
  · replace H := H.2 c1
    refine wp_iload rfl rfl ?_
    refine wp_iconst rfl ?_
    refine wp_iclt (tn := 19) rfl rfl (fun c2 => ?_) (fun c2 => ?_)
    · replace H := H.1 c2
      refine wp_aload rfl rfl ?_
      refine wp_getR (r := 62) rfl (congrArg Prod.fst (kf_62 X.1)) rfl ?_
      refine wp_iload rfl rfl ?_
      refine wp_iload rfl rfl ?_
      refine wp_iastore rfl (kf_63 X.1) ⟨c1, c2⟩ ?_
      refine wp_aload rfl rfl ?_
      refine wp_getR (r := 63) rfl (congrArg Prod.fst (kf_62 X.1)) rfl ?_
      refine wp_iload rfl rfl ?_
      refine wp_iload rfl rfl ?_
      refine wp_iastore rfl (kf_64 X.1) ⟨c1, c2⟩ ?_
      refine wp_aload rfl rfl ?_
      refine wp_getR (r := 64) rfl (congrArg Prod.fst (kf_62 X.1)) rfl ?_
      refine wp_iload rfl rfl ?_
      refine wp_iload rfl rfl ?_
      refine wp_iastore rfl (kf_65 X.1) ⟨c1, c2⟩ ?_
      refine wp_iload rfl rfl ?_
      refine wp_ifeq (tn := 67) rfl rfl (fun c3 => ?_) (fun c3 => ?_)
      · replace H := H.1 c3
        refine wp_aload rfl rfl ?_
        refine wp_getR (r := 65) rfl (congrArg Prod.fst (kf_62 X.1)) rfl ?_
        refine wp_iload rfl rfl ?_
        refine wp_iconst rfl ?_
        refine wp_iastore rfl (kf_66 X.1) ⟨c1, c2⟩ ?_
        refine wp_aload rfl rfl ?_
        refine wp_getR (r := 66) rfl (congrArg Prod.fst (kf_62 X.1)) rfl ?_
        refine wp_iload rfl rfl ?_
        refine wp_iconst rfl ?_
        refine wp_iastore rfl (kf_67 X.1) ⟨c1, c2⟩ ?_
        refine wp_aload rfl rfl ?_
        refine wp_getR (r := 67) rfl (congrArg Prod.fst (kf_62 X.1)) rfl ?_
        refine wp_iload rfl rfl ?_
        refine wp_iconst rfl ?_
        refine wp_iastore rfl (kf_68 X.1) ⟨c1, c2⟩ ?_
        refine wp_goto (tn := 205) rfl rfl ?_
        refine wp_aload rfl rfl ?_
        refine wp_dupR rfl ?_
        refine wp_getI (j := 6) rfl (congrArg Prod.fst (kf_62 X.1)) rfl ?_
        refine Wp.topI (y := (h 62 6)) (congrFun ((upd2_ne (by decide)).trans ((upd2_ne (by decide)).trans ((upd2_ne (by decide)).trans ((upd2_ne (by decide)).trans ((upd2_ne (by decide)).trans (upd2_ne (by decide))))))) _) ?_
        refine wp_iconst rfl ?_
        refine wp_iadd rfl ?_
        refine Wp.topI (y := ((h 62 6) + 1)) (w32_I (by clear H; unfold R32; omega)) ?_
        refine wp_putI (j := 6) rfl (congrArg Prod.fst (kf_62 X.1)) rfl rfl rfl ?_
        exact wp_vret rfl rfl H
      · replace H := H.2 c3
        refine wp_aload rfl rfl ?_
        refine wp_getR (r := 63) rfl (congrArg Prod.fst (kf_62 X.1)) rfl ?_
        refine wp_iload rfl rfl ?_
        refine wp_iaload rfl (kf_64 X.1) ⟨c1, c2⟩ ?_
        refine Wp.topI (y := x2) ((congrFun ((upd2_ne (by decide)).trans (upd2_cg (upd2_ne (by decide)))) _).trans upd2_s) ?_
        refine wp_aload rfl rfl ?_
        refine wp_getR (r := 63) rfl (congrArg Prod.fst (kf_62 X.1)) rfl ?_
        refine wp_iload rfl rfl ?_
        refine wp_iconst rfl ?_
        refine wp_isub rfl ?_
        refine Wp.topI (y := ((h 62 6) - 1)) (w32_I (by clear H; unfold R32; omega)) ?_
        have g4 := H.1
        replace H := H.2
        refine wp_iaload rfl (kf_64 X.1) g4 ?_
        refine Wp.topI (y := (h 64 ((h 62 6) - 1))) ((congrFun ((upd2_ne (by decide)).trans (upd2_cg (upd2_ne (by decide)))) _).trans (upd2_o (by clear H; omega))) ?_
        refine wp_icne (tn := 94) rfl rfl (fun c5 => ?_) (fun c5 => ?_)
        · replace H := H.1 c5
          refine wp_aload rfl rfl ?_
          refine wp_getR (r := 65) rfl (congrArg Prod.fst (kf_62 X.1)) rfl ?_
          refine wp_iload rfl rfl ?_
          refine wp_aload rfl rfl ?_
          refine wp_getR (r := 63) rfl (congrArg Prod.fst (kf_62 X.1)) rfl ?_
          refine wp_iload rfl rfl ?_
          refine wp_iaload rfl (kf_64 X.1) ⟨c1, c2⟩ ?_
          refine Wp.topI (y := x2) ((congrFun ((upd2_ne (by decide)).trans (upd2_cg (upd2_ne (by decide)))) _).trans upd2_s) ?_
          refine wp_aload rfl rfl ?_
          refine wp_getR (r := 63) rfl (congrArg Prod.fst (kf_62 X.1)) rfl ?_
          refine wp_iload rfl rfl ?_
          refine wp_iconst rfl ?_
          refine wp_isub rfl ?_
          refine Wp.topI (y := ((h 62 6) - 1)) (w32_I (by clear H; unfold R32; omega)) ?_
          refine wp_iaload rfl (kf_64 X.1) ⟨g4.1, g4.2⟩ ?_
          refine Wp.topI (y := (h 64 ((h 62 6) - 1))) ((congrFun ((upd2_ne (by decide)).trans (upd2_cg (upd2_ne (by decide)))) _).trans (upd2_o (by clear H; omega))) ?_
          refine wp_icle (tn := 123) rfl rfl (fun c6 => ?_) (fun c6 => ?_)
          · replace H := H.1 c6
            refine wp_iconst rfl ?_
            refine wp_iastore rfl (kf_66 X.1) ⟨c1, c2⟩ ?_
            refine wp_aload rfl rfl ?_
            refine wp_getR (r := 65) rfl (congrArg Prod.fst (kf_62 X.1)) rfl ?_
            refine wp_iload rfl rfl ?_
            refine wp_iaload rfl (kf_66 X.1) ⟨c1, c2⟩ ?_
            refine Wp.topI (y := (-1)) ((congrFun (upd2_cg ((upd2_ne (by decide)).trans ((upd2_ne (by decide)).trans (upd2_ne (by decide))))) _).trans upd2_s) ?_
            refine wp_aload rfl rfl ?_
            refine wp_getR (r := 65) rfl (congrArg Prod.fst (kf_62 X.1)) rfl ?_
            refine wp_iload rfl rfl ?_
            refine wp_iconst rfl ?_
            refine wp_isub rfl ?_
            refine Wp.topI (y := ((h 62 6) - 1)) (w32_I (by clear H; unfold R32; omega)) ?_
            refine wp_iaload rfl (kf_66 X.1) ⟨g4.1, g4.2⟩ ?_
            refine Wp.topI (y := (h 66 ((h 62 6) - 1))) ((congrFun (upd2_cg ((upd2_ne (by decide)).trans ((upd2_ne (by decide)).trans (upd2_ne (by decide))))) _).trans (upd2_o (by clear H; omega))) ?_
            refine wp_icne (tn := 148) rfl rfl (fun c7 => ?_) (fun c7 => ?_)
            · replace H := H.1 c7
              refine wp_iconst rfl ?_
              refine wp_istore (L2 := [vr 62, vi x1, vi x2, vi x3, vi (h 62 6), vi 0]) rfl (Nat.le_of_ble_eq_true rfl) rfl ?_
              refine wp_aload rfl rfl ?_
              refine wp_getR (r := 66) rfl (congrArg Prod.fst (kf_62 X.1)) rfl ?_
              refine wp_iload rfl rfl ?_
              refine wp_iload rfl rfl ?_
              refine wp_ifeqT (tn := 176) rfl rfl (by decide) ?_
              refine wp_iconst rfl ?_
              refine wp_iastore rfl (kf_67 X.1) ⟨c1, c2⟩ ?_
              refine wp_aload rfl rfl ?_
              refine wp_getR (r := 67) rfl (congrArg Prod.fst (kf_62 X.1)) rfl ?_
              refine wp_iload rfl rfl ?_
              refine wp_iload rfl rfl ?_
              refine wp_ifeqT (tn := 193) rfl rfl (by decide) ?_
              refine wp_aload rfl rfl ?_
              refine wp_getR (r := 67) rfl (congrArg Prod.fst (kf_62 X.1)) rfl ?_
              refine wp_iload rfl rfl ?_
              refine wp_iconst rfl ?_
              refine wp_isub rfl ?_
              refine Wp.topI (y := ((h 62 6) - 1)) (w32_I (by clear H; unfold R32; omega)) ?_
              refine wp_iaload rfl (kf_68 X.1) ⟨g4.1, g4.2⟩ ?_
              refine Wp.topI (y := (h 68 ((h 62 6) - 1))) (congrFun ((upd2_ne (by decide)).trans ((upd2_ne (by decide)).trans ((upd2_ne (by decide)).trans ((upd2_ne (by decide)).trans (upd2_ne (by decide)))))) _) ?_
              refine wp_iconst rfl ?_
              refine wp_iadd rfl ?_
              have g8 := H.1
              replace H := H.2
              refine Wp.topI (y := ((h 68 ((h 62 6) - 1)) + 1)) (w32_I g8) ?_
              refine wp_iastore rfl (kf_68 X.1) ⟨c1, c2⟩ ?_
              refine wp_aload rfl rfl ?_
              refine wp_dupR rfl ?_
              refine wp_getI (j := 6) rfl (congrArg Prod.fst (kf_62 X.1)) rfl ?_
              refine Wp.topI (y := (h 62 6)) (congrFun ((upd2_ne (by decide)).trans ((upd2_ne (by decide)).trans ((upd2_ne (by decide)).trans ((upd2_ne (by decide)).trans ((upd2_ne (by decide)).trans (upd2_ne (by decide))))))) _) ?_
              refine wp_iconst rfl ?_
              refine wp_iadd rfl ?_
              refine Wp.topI (y := ((h 62 6) + 1)) (w32_I (by clear H; unfold R32; omega)) ?_
              refine wp_putI (j := 6) rfl (congrArg Prod.fst (kf_62 X.1)) rfl rfl rfl ?_
              exact wp_vret rfl rfl H
            · replace H := H.2 c7
              refine wp_iconst rfl ?_
              refine wp_goto (tn := 149) rfl rfl ?_
              refine wp_istore (L2 := [vr 62, vi x1, vi x2, vi x3, vi (h 62 6), vi 1]) rfl (Nat.le_of_ble_eq_true rfl) rfl ?_
              refine wp_aload rfl rfl ?_
              refine wp_getR (r := 66) rfl (congrArg Prod.fst (kf_62 X.1)) rfl ?_
              refine wp_iload rfl rfl ?_
              refine wp_iload rfl rfl ?_
              refine wp_ifeqF (tn := 176) rfl rfl (by decide) ?_
              refine wp_aload rfl rfl ?_
              refine wp_getR (r := 66) rfl (congrArg Prod.fst (kf_62 X.1)) rfl ?_
              refine wp_iload rfl rfl ?_
              refine wp_iconst rfl ?_
              refine wp_isub rfl ?_
              refine Wp.topI (y := ((h 62 6) - 1)) (w32_I (by clear H; unfold R32; omega)) ?_
              refine wp_iaload rfl (kf_67 X.1) ⟨g4.1, g4.2⟩ ?_
              refine Wp.topI (y := (h 67 ((h 62 6) - 1))) (congrFun ((upd2_ne (by decide)).trans ((upd2_ne (by decide)).trans ((upd2_ne (by decide)).trans (upd2_ne (by decide))))) _) ?_
              refine wp_iconst rfl ?_
              refine wp_iadd rfl ?_
              have g9 := H.1
              replace H := H.2
              refine Wp.topI (y := ((h 67 ((h 62 6) - 1)) + 1)) (w32_I g9) ?_
              refine wp_goto (tn := 177) rfl rfl ?_
              refine wp_iastore rfl (kf_67 X.1) ⟨c1, c2⟩ ?_
              refine wp_aload rfl rfl ?_
              refine wp_getR (r := 67) rfl (congrArg Prod.fst (kf_62 X.1)) rfl ?_
              refine wp_iload rfl rfl ?_
              refine wp_iload rfl rfl ?_
              refine wp_ifeqF (tn := 193) rfl rfl (by decide) ?_
              refine wp_iconst rfl ?_
              refine wp_goto (tn := 204) rfl rfl ?_
              refine wp_iastore rfl (kf_68 X.1) ⟨c1, c2⟩ ?_
              refine wp_aload rfl rfl ?_
              refine wp_dupR rfl ?_
              refine wp_getI (j := 6) rfl (congrArg Prod.fst (kf_62 X.1)) rfl ?_
              refine Wp.topI (y := (h 62 6)) (congrFun ((upd2_ne (by decide)).trans ((upd2_ne (by decide)).trans ((upd2_ne (by decide)).trans ((upd2_ne (by decide)).trans ((upd2_ne (by decide)).trans (upd2_ne (by decide))))))) _) ?_
              refine wp_iconst rfl ?_
              refine wp_iadd rfl ?_
              refine Wp.topI (y := ((h 62 6) + 1)) (w32_I (by clear H; unfold R32; omega)) ?_
              refine wp_putI (j := 6) rfl (congrArg Prod.fst (kf_62 X.1)) rfl rfl rfl ?_
              exact wp_vret rfl rfl H
          · replace H := H.2 c6
            refine wp_iconst rfl ?_
            refine wp_goto (tn := 124) rfl rfl ?_
            refine wp_iastore rfl (kf_66 X.1) ⟨c1, c2⟩ ?_
            refine wp_aload rfl rfl ?_
            refine wp_getR (r := 65) rfl (congrArg Prod.fst (kf_62 X.1)) rfl ?_
            refine wp_iload rfl rfl ?_
            refine wp_iaload rfl (kf_66 X.1) ⟨c1, c2⟩ ?_
            refine Wp.topI (y := 1) ((congrFun (upd2_cg ((upd2_ne (by decide)).trans ((upd2_ne (by decide)).trans (upd2_ne (by decide))))) _).trans upd2_s) ?_
            refine wp_aload rfl rfl ?_
            refine wp_getR (r := 65) rfl (congrArg Prod.fst (kf_62 X.1)) rfl ?_
            refine wp_iload rfl rfl ?_
            refine wp_iconst rfl ?_
            refine wp_isub rfl ?_
            refine Wp.topI (y := ((h 62 6) - 1)) (w32_I (by clear H; unfold R32; omega)) ?_
            refine wp_iaload rfl (kf_66 X.1) ⟨g4.1, g4.2⟩ ?_
            refine Wp.topI (y := (h 66 ((h 62 6) - 1))) ((congrFun (upd2_cg ((upd2_ne (by decide)).trans ((upd2_ne (by decide)).trans (upd2_ne (by decide))))) _).trans (upd2_o (by clear H; omega))) ?_
            refine wp_icne (tn := 148) rfl rfl (fun c10 => ?_) (fun c10 => ?_)
            · replace H := H.1 c10
              refine wp_iconst rfl ?_
              refine wp_istore (L2 := [vr 62, vi x1, vi x2, vi x3, vi (h 62 6), vi 0]) rfl (Nat.le_of_ble_eq_true rfl) rfl ?_
              refine wp_aload rfl rfl ?_
              refine wp_getR (r := 66) rfl (congrArg Prod.fst (kf_62 X.1)) rfl ?_
              refine wp_iload rfl rfl ?_
              refine wp_iload rfl rfl ?_
              refine wp_ifeqT (tn := 176) rfl rfl (by decide) ?_
              refine wp_iconst rfl ?_
              refine wp_iastore rfl (kf_67 X.1) ⟨c1, c2⟩ ?_
              refine wp_aload rfl rfl ?_
              refine wp_getR (r := 67) rfl (congrArg Prod.fst (kf_62 X.1)) rfl ?_
              refine wp_iload rfl rfl ?_
              refine wp_iload rfl rfl ?_
              refine wp_ifeqT (tn := 193) rfl rfl (by decide) ?_
              refine wp_aload rfl rfl ?_
              refine wp_getR (r := 67) rfl (congrArg Prod.fst (kf_62 X.1)) rfl ?_
              refine wp_iload rfl rfl ?_
              refine wp_iconst rfl ?_
              refine wp_isub rfl ?_
              refine Wp.topI (y := ((h 62 6) - 1)) (w32_I (by clear H; unfold R32; omega)) ?_
              refine wp_iaload rfl (kf_68 X.1) ⟨g4.1, g4.2⟩ ?_
              refine Wp.topI (y := (h 68 ((h 62 6) - 1))) (congrFun ((upd2_ne (by decide)).trans ((upd2_ne (by decide)).trans ((upd2_ne (by decide)).trans ((upd2_ne (by decide)).trans (upd2_ne (by decide)))))) _) ?_
              refine wp_iconst rfl ?_
              refine wp_iadd rfl ?_
              have g11 := H.1
              replace H := H.2
              refine Wp.topI (y := ((h 68 ((h 62 6) - 1)) + 1)) (w32_I g11) ?_
              refine wp_iastore rfl (kf_68 X.1) ⟨c1, c2⟩ ?_
              refine wp_aload rfl rfl ?_
              refine wp_dupR rfl ?_
              refine wp_getI (j := 6) rfl (congrArg Prod.fst (kf_62 X.1)) rfl ?_
              refine Wp.topI (y := (h 62 6)) (congrFun ((upd2_ne (by decide)).trans ((upd2_ne (by decide)).trans ((upd2_ne (by decide)).trans ((upd2_ne (by decide)).trans ((upd2_ne (by decide)).trans (upd2_ne (by decide))))))) _) ?_
              refine wp_iconst rfl ?_
              refine wp_iadd rfl ?_
              refine Wp.topI (y := ((h 62 6) + 1)) (w32_I (by clear H; unfold R32; omega)) ?_
              refine wp_putI (j := 6) rfl (congrArg Prod.fst (kf_62 X.1)) rfl rfl rfl ?_
              exact wp_vret rfl rfl H
            · replace H := H.2 c10
              refine wp_iconst rfl ?_
              refine wp_goto (tn := 149) rfl rfl ?_
              refine wp_istore (L2 := [vr 62, vi x1, vi x2, vi x3, vi (h 62 6), vi 1]) rfl (Nat.le_of_ble_eq_true rfl) rfl ?_
              refine wp_aload rfl rfl ?_
              refine wp_getR (r := 66) rfl (congrArg Prod.fst (kf_62 X.1)) rfl ?_
              refine wp_iload rfl rfl ?_
              refine wp_iload rfl rfl ?_
              refine wp_ifeqF (tn := 176) rfl rfl (by decide) ?_
              refine wp_aload rfl rfl ?_
              refine wp_getR (r := 66) rfl (congrArg Prod.fst (kf_62 X.1)) rfl ?_
              refine wp_iload rfl rfl ?_
              refine wp_iconst rfl ?_
              refine wp_isub rfl ?_
              refine Wp.topI (y := ((h 62 6) - 1)) (w32_I (by clear H; unfold R32; omega)) ?_
              refine wp_iaload rfl (kf_67 X.1) ⟨g4.1, g4.2⟩ ?_
              refine Wp.topI (y := (h 67 ((h 62 6) - 1))) (congrFun ((upd2_ne (by decide)).trans ((upd2_ne (by decide)).trans ((upd2_ne (by decide)).trans (upd2_ne (by decide))))) _) ?_
              refine wp_iconst rfl ?_
              refine wp_iadd rfl ?_
              have g12 := H.1
              replace H := H.2
              refine Wp.topI (y := ((h 67 ((h 62 6) - 1)) + 1)) (w32_I g12) ?_
              refine wp_goto (tn := 177) rfl rfl ?_
              refine wp_iastore rfl (kf_67 X.1) ⟨c1, c2⟩ ?_
              refine wp_aload rfl rfl ?_
              refine wp_getR (r := 67) rfl (congrArg Prod.fst (kf_62 X.1)) rfl ?_
              refine wp_iload rfl rfl ?_
              refine wp_iload rfl rfl ?_
              refine wp_ifeqF (tn := 193) rfl rfl (by decide) ?_
              refine wp_iconst rfl ?_
              refine wp_goto (tn := 204) rfl rfl ?_
              refine wp_iastore rfl (kf_68 X.1) ⟨c1, c2⟩ ?_
              refine wp_aload rfl rfl ?_
              refine wp_dupR rfl ?_
              refine wp_getI (j := 6) rfl (congrArg Prod.fst (kf_62 X.1)) rfl ?_
              refine Wp.topI (y := (h 62 6)) (congrFun ((upd2_ne (by decide)).trans ((upd2_ne (by decide)).trans ((upd2_ne (by decide)).trans ((upd2_ne (by decide)).trans ((upd2_ne (by decide)).trans (upd2_ne (by decide))))))) _) ?_
              refine wp_iconst rfl ?_
              refine wp_iadd rfl ?_
              refine Wp.topI (y := ((h 62 6) + 1)) (w32_I (by clear H; unfold R32; omega)) ?_
              refine wp_putI (j := 6) rfl (congrArg Prod.fst (kf_62 X.1)) rfl rfl rfl ?_
              exact wp_vret rfl rfl H
        · replace H := H.2 c5
          refine wp_aload rfl rfl ?_
          refine wp_getR (r := 65) rfl (congrArg Prod.fst (kf_62 X.1)) rfl ?_
          refine wp_iload rfl rfl ?_
          refine wp_iconst rfl ?_
          refine wp_iastore rfl (kf_66 X.1) ⟨c1, c2⟩ ?_
          refine wp_aload rfl rfl ?_
          refine wp_getR (r := 66) rfl (congrArg Prod.fst (kf_62 X.1)) rfl ?_
          refine wp_iload rfl rfl ?_
          refine wp_iconst rfl ?_
          refine wp_iastore rfl (kf_67 X.1) ⟨c1, c2⟩ ?_
          refine wp_aload rfl rfl ?_
          refine wp_getR (r := 67) rfl (congrArg Prod.fst (kf_62 X.1)) rfl ?_
          refine wp_iload rfl rfl ?_
          refine wp_iconst rfl ?_
          refine wp_iastore rfl (kf_68 X.1) ⟨c1, c2⟩ ?_
          refine wp_goto (tn := 205) rfl rfl ?_
          refine wp_aload rfl rfl ?_
          refine wp_dupR rfl ?_
          refine wp_getI (j := 6) rfl (congrArg Prod.fst (kf_62 X.1)) rfl ?_
          refine Wp.topI (y := (h 62 6)) (congrFun ((upd2_ne (by decide)).trans ((upd2_ne (by decide)).trans ((upd2_ne (by decide)).trans ((upd2_ne (by decide)).trans ((upd2_ne (by decide)).trans (upd2_ne (by decide))))))) _) ?_
          refine wp_iconst rfl ?_
          refine wp_iadd rfl ?_
          refine Wp.topI (y := ((h 62 6) + 1)) (w32_I (by clear H; unfold R32; omega)) ?_
          refine wp_putI (j := 6) rfl (congrArg Prod.fst (kf_62 X.1)) rfl rfl rfl ?_
          exact wp_vret rfl rfl H
    · replace H := H.2 c2
      exact wp_vret rfl rfl H
/-- Row.smoothedAt(II)I, from 0 -/
theorem S199_37_0 {X : Nat × (Int → Int)} {h : HP} {Q : bQ} (x1 : Int) (x2 : Int) (H : Wp X 1 199 5 [vr 37, vi x1, vi x2, vi 0, vi 0, vu, vu, vu] [] h Q) : Wp X 1 199 0 [vr 37, vi x1, vi x2, vu, vu, vu, vu, vu] [] h Q := by
  refine wp_iconst rfl ?_
  refine wp_istore (L2 := [vr 37, vi x1, vi x2, vi 0, vu, vu, vu, vu]) rfl (Nat.le_of_ble_eq_true rfl) rfl ?_
  refine wp_iconst rfl ?_
  refine wp_istore (L2 := [vr 37, vi x1, vi x2, vi 0, vi 0, vu, vu, vu]) rfl (Nat.le_of_ble_eq_true rfl) rfl ?_
  exact H
/-- Row.smoothedAt(II)I, from 5 -/
theorem S199_37_5 {X : Nat × (Int → Int)} {h : HP} {Q : bQ} (x1 : Int) (x2 : Int) (x3 : Int) (x4 : Int) (zx5 : aV) (zx6 : aV) (H : ((x1 < x4 → Q (some (vi x3)) h) ∧ (x4 ≤ x1 → (((h 37 6) ≤ x4 → Q (some (vi x3)) h) ∧ (x4 < (h 37 6) → ((x4 ≠ 0 → ((R32 (8 - x2)) ∧ ((R64 (x3 * (8 - x2))) ∧ ((R64 ((x3 * (8 - x2)) * 60)) ∧ ((0 ≤ x4 ∧ x4 < 20) ∧ ((R64 (1000 * (h 39 x4))) ∧ ((R64 ((1000 * (h 39 x4)) * x2)) ∧ ((R64 (((x3 * (8 - x2)) * 60) + ((1000 * (h 39 x4)) * x2))) ∧ ((R64 (Int.tdiv (((x3 * (8 - x2)) * 60) + ((1000 * (h 39 x4)) * x2)) 480)) ∧ ((0 ≤ (lcp ((i64 (((x3 * (8 - x2)) * 60) + ((1000 * (h 39 x4)) * x2)) ^^^ i64 480).toInt) 0) → ((R32 (Int.tdiv (((x3 * (8 - x2)) * 60) + ((1000 * (h 39 x4)) * x2)) 480)) ∧ Wp X 1 199 5 [vr 37, vi x1, vi x2, vi (Int.tdiv (((x3 * (8 - x2)) * 60) + ((1000 * (h 39 x4)) * x2)) 480), vi (x4 + 1), vi x2, vl (((x3 * (8 - x2)) * 60) + ((1000 * (h 39 x4)) * x2)), vu] [] h Q)) ∧ ((lcp ((i64 (((x3 * (8 - x2)) * 60) + ((1000 * (h 39 x4)) * x2)) ^^^ i64 480).toInt) 0) < 0 → ((R64 ((Int.tdiv (((x3 * (8 - x2)) * 60) + ((1000 * (h 39 x4)) * x2)) 480) * 480)) ∧ (((lcp ((Int.tdiv (((x3 * (8 - x2)) * 60) + ((1000 * (h 39 x4)) * x2)) 480) * 480) (((x3 * (8 - x2)) * 60) + ((1000 * (h 39 x4)) * x2))) = 0 → ((R32 (Int.tdiv (((x3 * (8 - x2)) * 60) + ((1000 * (h 39 x4)) * x2)) 480)) ∧ Wp X 1 199 5 [vr 37, vi x1, vi x2, vi (Int.tdiv (((x3 * (8 - x2)) * 60) + ((1000 * (h 39 x4)) * x2)) 480), vi (x4 + 1), vi x2, vl (((x3 * (8 - x2)) * 60) + ((1000 * (h 39 x4)) * x2)), vu] [] h Q)) ∧ ((lcp ((Int.tdiv (((x3 * (8 - x2)) * 60) + ((1000 * (h 39 x4)) * x2)) 480) * 480) (((x3 * (8 - x2)) * 60) + ((1000 * (h 39 x4)) * x2))) ≠ 0 → ((R64 ((Int.tdiv (((x3 * (8 - x2)) * 60) + ((1000 * (h 39 x4)) * x2)) 480) - 1)) ∧ ((R32 ((Int.tdiv (((x3 * (8 - x2)) * 60) + ((1000 * (h 39 x4)) * x2)) 480) - 1)) ∧ Wp X 1 199 5 [vr 37, vi x1, vi x2, vi ((Int.tdiv (((x3 * (8 - x2)) * 60) + ((1000 * (h 39 x4)) * x2)) 480) - 1), vi (x4 + 1), vi x2, vl (((x3 * (8 - x2)) * 60) + ((1000 * (h 39 x4)) * x2)), vu] [] h Q)))))))))))))))) ∧ (x4 = 0 → ((R64 (1000 * (h 39 x4))) ∧ ((R64 ((1000 * (h 39 x4)) * 8)) ∧ ((R64 (((x3 * 0) * 60) + ((1000 * (h 39 x4)) * 8))) ∧ ((R64 (Int.tdiv (((x3 * 0) * 60) + ((1000 * (h 39 x4)) * 8)) 480)) ∧ ((0 ≤ (lcp ((i64 (((x3 * 0) * 60) + ((1000 * (h 39 x4)) * 8)) ^^^ i64 480).toInt) 0) → ((R32 (Int.tdiv (((x3 * 0) * 60) + ((1000 * (h 39 x4)) * 8)) 480)) ∧ Wp X 1 199 5 [vr 37, vi x1, vi x2, vi (Int.tdiv (((x3 * 0) * 60) + ((1000 * (h 39 x4)) * 8)) 480), vi (x4 + 1), vi 8, vl (((x3 * 0) * 60) + ((1000 * (h 39 x4)) * 8)), vu] [] h Q)) ∧ ((lcp ((i64 (((x3 * 0) * 60) + ((1000 * (h 39 x4)) * 8)) ^^^ i64 480).toInt) 0) < 0 → ((R64 ((Int.tdiv (((x3 * 0) * 60) + ((1000 * (h 39 x4)) * 8)) 480) * 480)) ∧ (((lcp ((Int.tdiv (((x3 * 0) * 60) + ((1000 * (h 39 x4)) * 8)) 480) * 480) (((x3 * 0) * 60) + ((1000 * (h 39 x4)) * 8))) = 0 → ((R32 (Int.tdiv (((x3 * 0) * 60) + ((1000 * (h 39 x4)) * 8)) 480)) ∧ Wp X 1 199 5 [vr 37, vi x1, vi x2, vi (Int.tdiv (((x3 * 0) * 60) + ((1000 * (h 39 x4)) * 8)) 480), vi (x4 + 1), vi 8, vl (((x3 * 0) * 60) + ((1000 * (h 39 x4)) * 8)), vu] [] h Q)) ∧ ((lcp ((Int.tdiv (((x3 * 0) * 60) + ((1000 * (h 39 x4)) * 8)) 480) * 480) (((x3 * 0) * 60) + ((1000 * (h 39 x4)) * 8))) ≠ 0 → ((R64 ((Int.tdiv (((x3 * 0) * 60) + ((1000 * (h 39 x4)) * 8)) 480) - 1)) ∧ ((R32 ((Int.tdiv (((x3 * 0) * 60) + ((1000 * (h 39 x4)) * 8)) 480) - 1)) ∧ Wp X 1 199 5 [vr 37, vi x1, vi x2, vi ((Int.tdiv (((x3 * 0) * 60) + ((1000 * (h 39 x4)) * 8)) 480) - 1), vi (x4 + 1), vi 8, vl (((x3 * 0) * 60) + ((1000 * (h 39 x4)) * 8)), vu] [] h Q)))))))))))))))))) : Wp X 1 199 5 [vr 37, vi x1, vi x2, vi x3, vi x4, zx5, zx6, vu] [] h Q := by
  refine wp_iload rfl rfl ?_
  refine wp_iload rfl rfl ?_
  refine wp_icgt (tn := 81) rfl rfl (fun c1 => ?_) (fun c1 => ?_)
  · replace H := H.1 c1
    refine wp_iload rfl rfl ?_
    exact wp_iret rfl rfl H
  · replace H := H.2 c1
    refine wp_iload rfl rfl ?_
    refine wp_aload rfl rfl ?_
    refine wp_getI (j := 6) rfl (congrArg Prod.fst (kf_37 X.1)) rfl ?_
    refine wp_icge (tn := 81) rfl rfl (fun c2 => ?_) (fun c2 => ?_)
    · replace H := H.1 c2
      refine wp_iload rfl rfl ?_
      exact wp_iret rfl rfl H
    · replace H := H.2 c2
      refine wp_iload rfl rfl ?_
      refine wp_ifne (tn := 30) rfl rfl (fun c3 => ?_) (fun c3 => ?_)
      · replace H := H.1 c3
        refine wp_iload rfl rfl ?_
        refine wp_istore (L2 := [vr 37, vi x1, vi x2, vi x3, vi x4, vi x2, zx6, vu]) rfl (Nat.le_of_ble_eq_true rfl) rfl ?_
        refine wp_iload rfl rfl ?_
        refine wp_i2l rfl ?_
        refine wp_iconst rfl ?_
        refine wp_iload rfl rfl ?_
        refine wp_isub rfl ?_
        have g4 := H.1
        replace H := H.2
        refine Wp.topI (y := (8 - x2)) (w32_I g4) ?_
        refine wp_i2l rfl ?_
        refine wp_lmul rfl ?_
        have g5 := H.1
        replace H := H.2
        refine Wp.topL (y := (x3 * (8 - x2))) (w64_I g5) ?_
        refine wp_sipush rfl ?_
        refine wp_lmul rfl ?_
        have g6 := H.1
        replace H := H.2
        refine Wp.topL (y := ((x3 * (8 - x2)) * 60)) (w64_I g6) ?_
        refine wp_sipush rfl ?_
        refine wp_aload rfl rfl ?_
        refine wp_getR (r := 38) rfl (congrArg Prod.fst (kf_37 X.1)) rfl ?_
        refine wp_iload rfl rfl ?_
        have g7 := H.1
        replace H := H.2
        refine wp_iaload rfl (kf_39 X.1) g7 ?_
        refine wp_i2l rfl ?_
        refine wp_lmul rfl ?_
        have g8 := H.1
        replace H := H.2
        refine Wp.topL (y := (1000 * (h 39 x4))) (w64_I g8) ?_
        refine wp_iload rfl rfl ?_
        refine wp_i2l rfl ?_
        refine wp_lmul rfl ?_
        have g9 := H.1
        replace H := H.2
        refine Wp.topL (y := ((1000 * (h 39 x4)) * x2)) (w64_I g9) ?_
        refine wp_ladd rfl ?_
        have g10 := H.1
        replace H := H.2
        refine Wp.topL (y := (((x3 * (8 - x2)) * 60) + ((1000 * (h 39 x4)) * x2))) (w64_I g10) ?_
        refine wp_lstore (L2 := [vr 37, vi x1, vi x2, vi x3, vi x4, vi x2, vl (((x3 * (8 - x2)) * 60) + ((1000 * (h 39 x4)) * x2)), vu]) rfl (Nat.le_of_ble_eq_true rfl) rfl ?_
        refine wp_lload rfl rfl ?_
        refine wp_sipush rfl ?_
        refine wp_call (k := 251) (ρ2 := 0) (L2 := [vl (((x3 * (8 - x2)) * 60) + ((1000 * (h 39 x4)) * x2)), vu, vl 480, vu, vu, vu]) rfl rfl rfl (Nat.le_of_ble_eq_true rfl) (Nat.le_of_ble_eq_true rfl) (Nat.le_of_ble_eq_true rfl) (rcv_S rfl) rfl ?_
        refine wp_lload rfl rfl ?_
        refine wp_lload rfl rfl ?_
        refine wp_ldiv rfl (by decide) ?_
        have g11 := H.1
        replace H := H.2
        refine Wp.topL (y := (Int.tdiv (((x3 * (8 - x2)) * 60) + ((1000 * (h 39 x4)) * x2)) 480)) (w64_I g11) ?_
        refine wp_lstore (L2 := [vl (((x3 * (8 - x2)) * 60) + ((1000 * (h 39 x4)) * x2)), vu, vl 480, vu, vl (Int.tdiv (((x3 * (8 - x2)) * 60) + ((1000 * (h 39 x4)) * x2)) 480), vu]) rfl (Nat.le_of_ble_eq_true rfl) rfl ?_
        refine wp_lload rfl rfl ?_
        refine wp_lload rfl rfl ?_
        refine wp_lxor rfl ?_
        refine wp_sipush rfl ?_
        refine wp_lcmp rfl ?_
        refine wp_ifge (tn := 27) rfl rfl (fun c12 => ?_) (fun c12 => ?_)
        · replace H := H.1 c12
          refine wp_lload rfl rfl ?_
          refine wp_lret rfl rfl ?_
          show Wp X _ 199 73 [vr 37, vi x1, vi x2, vi x3, vi x4, vi x2, vl (((x3 * (8 - x2)) * 60) + ((1000 * (h 39 x4)) * x2)), vu] [vl (Int.tdiv (((x3 * (8 - x2)) * 60) + ((1000 * (h 39 x4)) * x2)) 480)] _ _
          refine wp_l2i rfl ?_
          have g13 := H.1
          replace H := H.2
          refine Wp.topI (y := (Int.tdiv (((x3 * (8 - x2)) * 60) + ((1000 * (h 39 x4)) * x2)) 480)) (w32_I g13) ?_
          refine wp_istore (L2 := [vr 37, vi x1, vi x2, vi (Int.tdiv (((x3 * (8 - x2)) * 60) + ((1000 * (h 39 x4)) * x2)) 480), vi x4, vi x2, vl (((x3 * (8 - x2)) * 60) + ((1000 * (h 39 x4)) * x2)), vu]) rfl (Nat.le_of_ble_eq_true rfl) rfl ?_
          refine wp_iincR (L2 := [vr 37, vi x1, vi x2, vi (Int.tdiv (((x3 * (8 - x2)) * 60) + ((1000 * (h 39 x4)) * x2)) 480), vi (x4 + 1), vi x2, vl (((x3 * (8 - x2)) * 60) + ((1000 * (h 39 x4)) * x2)), vu]) rfl rfl (by clear H; unfold R32; omega) rfl ?_
          refine wp_goto (tn := 5) rfl rfl ?_
          exact H
        · replace H := H.2 c12
          refine wp_lload rfl rfl ?_
          refine wp_lload rfl rfl ?_
          refine wp_lmul rfl ?_
          have g14 := H.1
          replace H := H.2
          refine Wp.topL (y := ((Int.tdiv (((x3 * (8 - x2)) * 60) + ((1000 * (h 39 x4)) * x2)) 480) * 480)) (w64_I g14) ?_
          refine wp_lload rfl rfl ?_
          refine wp_lcmp rfl ?_
          refine wp_ifeq (tn := 27) rfl rfl (fun c15 => ?_) (fun c15 => ?_)
          · replace H := H.1 c15
            refine wp_lload rfl rfl ?_
            refine wp_lret rfl rfl ?_
            show Wp X _ 199 73 [vr 37, vi x1, vi x2, vi x3, vi x4, vi x2, vl (((x3 * (8 - x2)) * 60) + ((1000 * (h 39 x4)) * x2)), vu] [vl (Int.tdiv (((x3 * (8 - x2)) * 60) + ((1000 * (h 39 x4)) * x2)) 480)] _ _
            refine wp_l2i rfl ?_
            have g16 := H.1
            replace H := H.2
            refine Wp.topI (y := (Int.tdiv (((x3 * (8 - x2)) * 60) + ((1000 * (h 39 x4)) * x2)) 480)) (w32_I g16) ?_
            refine wp_istore (L2 := [vr 37, vi x1, vi x2, vi (Int.tdiv (((x3 * (8 - x2)) * 60) + ((1000 * (h 39 x4)) * x2)) 480), vi x4, vi x2, vl (((x3 * (8 - x2)) * 60) + ((1000 * (h 39 x4)) * x2)), vu]) rfl (Nat.le_of_ble_eq_true rfl) rfl ?_
            refine wp_iincR (L2 := [vr 37, vi x1, vi x2, vi (Int.tdiv (((x3 * (8 - x2)) * 60) + ((1000 * (h 39 x4)) * x2)) 480), vi (x4 + 1), vi x2, vl (((x3 * (8 - x2)) * 60) + ((1000 * (h 39 x4)) * x2)), vu]) rfl rfl (by clear H; unfold R32; omega) rfl ?_
            refine wp_goto (tn := 5) rfl rfl ?_
            exact H
          · replace H := H.2 c15
            refine wp_lload rfl rfl ?_
            refine wp_sipush rfl ?_
            refine wp_lsub rfl ?_
            have g17 := H.1
            replace H := H.2
            refine Wp.topL (y := ((Int.tdiv (((x3 * (8 - x2)) * 60) + ((1000 * (h 39 x4)) * x2)) 480) - 1)) (w64_I g17) ?_
            refine wp_lret rfl rfl ?_
            show Wp X _ 199 73 [vr 37, vi x1, vi x2, vi x3, vi x4, vi x2, vl (((x3 * (8 - x2)) * 60) + ((1000 * (h 39 x4)) * x2)), vu] [vl ((Int.tdiv (((x3 * (8 - x2)) * 60) + ((1000 * (h 39 x4)) * x2)) 480) - 1)] _ _
            refine wp_l2i rfl ?_
            have g18 := H.1
            replace H := H.2
            refine Wp.topI (y := ((Int.tdiv (((x3 * (8 - x2)) * 60) + ((1000 * (h 39 x4)) * x2)) 480) - 1)) (w32_I g18) ?_
            refine wp_istore (L2 := [vr 37, vi x1, vi x2, vi ((Int.tdiv (((x3 * (8 - x2)) * 60) + ((1000 * (h 39 x4)) * x2)) 480) - 1), vi x4, vi x2, vl (((x3 * (8 - x2)) * 60) + ((1000 * (h 39 x4)) * x2)), vu]) rfl (Nat.le_of_ble_eq_true rfl) rfl ?_
            refine wp_iincR (L2 := [vr 37, vi x1, vi x2, vi ((Int.tdiv (((x3 * (8 - x2)) * 60) + ((1000 * (h 39 x4)) * x2)) 480) - 1), vi (x4 + 1), vi x2, vl (((x3 * (8 - x2)) * 60) + ((1000 * (h 39 x4)) * x2)), vu]) rfl rfl (by clear H; unfold R32; omega) rfl ?_
            refine wp_goto (tn := 5) rfl rfl ?_
            exact H
      · replace H := H.2 c3
        refine wp_iconst rfl ?_
        refine wp_goto (tn := 31) rfl rfl ?_
        refine wp_istore (L2 := [vr 37, vi x1, vi x2, vi x3, vi x4, vi 8, zx6, vu]) rfl (Nat.le_of_ble_eq_true rfl) rfl ?_
        refine wp_iload rfl rfl ?_
        refine wp_i2l rfl ?_
        refine wp_iconst rfl ?_
        refine wp_iload rfl rfl ?_
        refine wp_isub rfl ?_
        refine Wp.topI (y := 0) (by decide) ?_
        refine wp_i2l rfl ?_
        refine wp_lmul rfl ?_
        refine Wp.topL (y := (x3 * 0)) (w64_I (by clear H; unfold R64; omega)) ?_
        refine wp_sipush rfl ?_
        refine wp_lmul rfl ?_
        refine Wp.topL (y := ((x3 * 0) * 60)) (w64_I (by clear H; unfold R64; omega)) ?_
        refine wp_sipush rfl ?_
        refine wp_aload rfl rfl ?_
        refine wp_getR (r := 38) rfl (congrArg Prod.fst (kf_37 X.1)) rfl ?_
        refine wp_iload rfl rfl ?_
        refine wp_iaload rfl (kf_39 X.1) ⟨(by clear H; omega), (by clear H; omega)⟩ ?_
        refine wp_i2l rfl ?_
        refine wp_lmul rfl ?_
        have g19 := H.1
        replace H := H.2
        refine Wp.topL (y := (1000 * (h 39 x4))) (w64_I g19) ?_
        refine wp_iload rfl rfl ?_
        refine wp_i2l rfl ?_
        refine wp_lmul rfl ?_
        have g20 := H.1
        replace H := H.2
        refine Wp.topL (y := ((1000 * (h 39 x4)) * 8)) (w64_I g20) ?_
        refine wp_ladd rfl ?_
        have g21 := H.1
        replace H := H.2
        refine Wp.topL (y := (((x3 * 0) * 60) + ((1000 * (h 39 x4)) * 8))) (w64_I g21) ?_
        refine wp_lstore (L2 := [vr 37, vi x1, vi x2, vi x3, vi x4, vi 8, vl (((x3 * 0) * 60) + ((1000 * (h 39 x4)) * 8)), vu]) rfl (Nat.le_of_ble_eq_true rfl) rfl ?_
        refine wp_lload rfl rfl ?_
        refine wp_sipush rfl ?_
        refine wp_call (k := 251) (ρ2 := 0) (L2 := [vl (((x3 * 0) * 60) + ((1000 * (h 39 x4)) * 8)), vu, vl 480, vu, vu, vu]) rfl rfl rfl (Nat.le_of_ble_eq_true rfl) (Nat.le_of_ble_eq_true rfl) (Nat.le_of_ble_eq_true rfl) (rcv_S rfl) rfl ?_
        refine wp_lload rfl rfl ?_
        refine wp_lload rfl rfl ?_
        refine wp_ldiv rfl (by decide) ?_
        have g22 := H.1
        replace H := H.2
        refine Wp.topL (y := (Int.tdiv (((x3 * 0) * 60) + ((1000 * (h 39 x4)) * 8)) 480)) (w64_I g22) ?_
        refine wp_lstore (L2 := [vl (((x3 * 0) * 60) + ((1000 * (h 39 x4)) * 8)), vu, vl 480, vu, vl (Int.tdiv (((x3 * 0) * 60) + ((1000 * (h 39 x4)) * 8)) 480), vu]) rfl (Nat.le_of_ble_eq_true rfl) rfl ?_
        refine wp_lload rfl rfl ?_
        refine wp_lload rfl rfl ?_
        refine wp_lxor rfl ?_
        refine wp_sipush rfl ?_
        refine wp_lcmp rfl ?_
        refine wp_ifge (tn := 27) rfl rfl (fun c23 => ?_) (fun c23 => ?_)
        · replace H := H.1 c23
          refine wp_lload rfl rfl ?_
          refine wp_lret rfl rfl ?_
          show Wp X _ 199 73 [vr 37, vi x1, vi x2, vi x3, vi x4, vi 8, vl (((x3 * 0) * 60) + ((1000 * (h 39 x4)) * 8)), vu] [vl (Int.tdiv (((x3 * 0) * 60) + ((1000 * (h 39 x4)) * 8)) 480)] _ _
          refine wp_l2i rfl ?_
          have g24 := H.1
          replace H := H.2
          refine Wp.topI (y := (Int.tdiv (((x3 * 0) * 60) + ((1000 * (h 39 x4)) * 8)) 480)) (w32_I g24) ?_
          refine wp_istore (L2 := [vr 37, vi x1, vi x2, vi (Int.tdiv (((x3 * 0) * 60) + ((1000 * (h 39 x4)) * 8)) 480), vi x4, vi 8, vl (((x3 * 0) * 60) + ((1000 * (h 39 x4)) * 8)), vu]) rfl (Nat.le_of_ble_eq_true rfl) rfl ?_
          refine wp_iincR (L2 := [vr 37, vi x1, vi x2, vi (Int.tdiv (((x3 * 0) * 60) + ((1000 * (h 39 x4)) * 8)) 480), vi (x4 + 1), vi 8, vl (((x3 * 0) * 60) + ((1000 * (h 39 x4)) * 8)), vu]) rfl rfl (by clear H; unfold R32; omega) rfl ?_
          refine wp_goto (tn := 5) rfl rfl ?_
          exact H
        · replace H := H.2 c23
          refine wp_lload rfl rfl ?_
          refine wp_lload rfl rfl ?_
          refine wp_lmul rfl ?_
          have g25 := H.1
          replace H := H.2
          refine Wp.topL (y := ((Int.tdiv (((x3 * 0) * 60) + ((1000 * (h 39 x4)) * 8)) 480) * 480)) (w64_I g25) ?_
          refine wp_lload rfl rfl ?_
          refine wp_lcmp rfl ?_
          refine wp_ifeq (tn := 27) rfl rfl (fun c26 => ?_) (fun c26 => ?_)
          · replace H := H.1 c26
            refine wp_lload rfl rfl ?_
            refine wp_lret rfl rfl ?_
            show Wp X _ 199 73 [vr 37, vi x1, vi x2, vi x3, vi x4, vi 8, vl (((x3 * 0) * 60) + ((1000 * (h 39 x4)) * 8)), vu] [vl (Int.tdiv (((x3 * 0) * 60) + ((1000 * (h 39 x4)) * 8)) 480)] _ _
            refine wp_l2i rfl ?_
            have g27 := H.1
            replace H := H.2
            refine Wp.topI (y := (Int.tdiv (((x3 * 0) * 60) + ((1000 * (h 39 x4)) * 8)) 480)) (w32_I g27) ?_
            refine wp_istore (L2 := [vr 37, vi x1, vi x2, vi (Int.tdiv (((x3 * 0) * 60) + ((1000 * (h 39 x4)) * 8)) 480), vi x4, vi 8, vl (((x3 * 0) * 60) + ((1000 * (h 39 x4)) * 8)), vu]) rfl (Nat.le_of_ble_eq_true rfl) rfl ?_
            refine wp_iincR (L2 := [vr 37, vi x1, vi x2, vi (Int.tdiv (((x3 * 0) * 60) + ((1000 * (h 39 x4)) * 8)) 480), vi (x4 + 1), vi 8, vl (((x3 * 0) * 60) + ((1000 * (h 39 x4)) * 8)), vu]) rfl rfl (by clear H; unfold R32; omega) rfl ?_
            refine wp_goto (tn := 5) rfl rfl ?_
            exact H
          · replace H := H.2 c26
            refine wp_lload rfl rfl ?_
            refine wp_sipush rfl ?_
            refine wp_lsub rfl ?_
            have g28 := H.1
            replace H := H.2
            refine Wp.topL (y := ((Int.tdiv (((x3 * 0) * 60) + ((1000 * (h 39 x4)) * 8)) 480) - 1)) (w64_I g28) ?_
            refine wp_lret rfl rfl ?_
            show Wp X _ 199 73 [vr 37, vi x1, vi x2, vi x3, vi x4, vi 8, vl (((x3 * 0) * 60) + ((1000 * (h 39 x4)) * 8)), vu] [vl ((Int.tdiv (((x3 * 0) * 60) + ((1000 * (h 39 x4)) * 8)) 480) - 1)] _ _
            refine wp_l2i rfl ?_
            have g29 := H.1
            replace H := H.2
            refine Wp.topI (y := ((Int.tdiv (((x3 * 0) * 60) + ((1000 * (h 39 x4)) * 8)) 480) - 1)) (w32_I g29) ?_
            refine wp_istore (L2 := [vr 37, vi x1, vi x2, vi ((Int.tdiv (((x3 * 0) * 60) + ((1000 * (h 39 x4)) * 8)) 480) - 1), vi x4, vi 8, vl (((x3 * 0) * 60) + ((1000 * (h 39 x4)) * 8)), vu]) rfl (Nat.le_of_ble_eq_true rfl) rfl ?_
            refine wp_iincR (L2 := [vr 37, vi x1, vi x2, vi ((Int.tdiv (((x3 * 0) * 60) + ((1000 * (h 39 x4)) * 8)) 480) - 1), vi (x4 + 1), vi 8, vl (((x3 * 0) * 60) + ((1000 * (h 39 x4)) * 8)), vu]) rfl rfl (by clear H; unfold R32; omega) rfl ?_
            refine wp_goto (tn := 5) rfl rfl ?_
            exact H
/-- RuleText.append(I)V, from 0 -/
theorem S206_45_0 {X : Nat × (Int → Int)} {h : HP} {Q : bQ} (x1 : Int) (H : ((50 ≤ (h 45 4) → Wp X 4 210 0 [vr 45, vu, vu] [] h (fun v h' => Wp X 5 206 31 [vr 45, vi x1] (psh v []) h' Q)) ∧ ((h 45 4) < 50 → ((0 ≤ (h 45 4) ∧ (h 45 4) < 50) ∧ Wp X 4 210 0 [vr 45, vu, vu] [] (upd2 (upd2 h 46 (h 45 4) x1) 45 4 ((h 45 4) + 1)) (fun v h' => Wp X 5 206 31 [vr 45, vi x1] (psh v []) h' Q))))) : Wp X 5 206 0 [vr 45, vi x1] [] h Q := by
  refine wp_aload rfl rfl ?_
  refine wp_call (k := 204) (ρ2 := 0) (L2 := [vr 45]) rfl rfl rfl (Nat.le_of_ble_eq_true rfl) (Nat.le_of_ble_eq_true rfl) (Nat.le_of_ble_eq_true rfl) (rcv_V rfl (congrArg Prod.fst (kf_45 X.1))) rfl ?_
  refine wp_aload rfl rfl ?_
  refine wp_getI (j := 4) rfl (congrArg Prod.fst (kf_45 X.1)) rfl ?_
  refine wp_iconst rfl ?_
  refine wp_icge (tn := 13) rfl rfl (fun c1 => ?_) (fun c1 => ?_)
  · replace H := H.1 c1
    refine wp_iconst rfl ?_
    refine wp_zret rfl rfl (by decide) ?_
    show Wp X _ 206 4 [vr 45, vi x1] [vi 0] _ _
    refine wp_ifeqT (tn := 27) rfl rfl (by decide) ?_
    refine wp_aload rfl rfl ?_
    exact wp_call (k := 210) (ρ2 := 4) (L2 := [vr 45, vu, vu]) rfl rfl rfl (Nat.le_of_ble_eq_true rfl) (Nat.le_of_ble_eq_true rfl) (Nat.le_of_ble_eq_true rfl) (rcv_V rfl (congrArg Prod.fst (kf_45 X.1))) rfl H
  · replace H := H.2 c1
    refine wp_iconst rfl ?_
    refine wp_goto (tn := 14) rfl rfl ?_
    refine wp_zret rfl rfl (by decide) ?_
    show Wp X _ 206 4 [vr 45, vi x1] [vi 1] _ _
    refine wp_ifeqF (tn := 27) rfl rfl (by decide) ?_
    refine wp_aload rfl rfl ?_
    refine wp_getR (r := 45) rfl (congrArg Prod.fst (kf_45 X.1)) rfl ?_
    refine wp_aload rfl rfl ?_
    refine wp_getI (j := 4) rfl (congrArg Prod.fst (kf_45 X.1)) rfl ?_
    refine wp_iload rfl rfl ?_
    have g2 := H.1
    replace H := H.2
    refine wp_iastore rfl (kf_46 X.1) g2 ?_
    refine wp_aload rfl rfl ?_
    refine wp_dupR rfl ?_
    refine wp_getI (j := 4) rfl (congrArg Prod.fst (kf_45 X.1)) rfl ?_
    refine Wp.topI (y := (h 45 4)) (congrFun (upd2_ne (by decide)) _) ?_
    refine wp_iconst rfl ?_
    refine wp_iadd rfl ?_
    refine Wp.topI (y := ((h 45 4) + 1)) (w32_I (by clear H; unfold R32; omega)) ?_
    refine wp_putI (j := 4) rfl (congrArg Prod.fst (kf_45 X.1)) rfl rfl rfl ?_
    refine wp_aload rfl rfl ?_
    exact wp_call (k := 210) (ρ2 := 4) (L2 := [vr 45, vu, vu]) rfl rfl rfl (Nat.le_of_ble_eq_true rfl) (Nat.le_of_ble_eq_true rfl) (Nat.le_of_ble_eq_true rfl) (rcv_V rfl (congrArg Prod.fst (kf_45 X.1))) rfl H
/-- RuleText.append(I)V, from 31 -/
theorem S206_45_31 {X : Nat × (Int → Int)} {h : HP} {Q : bQ} (zx0 : aV) (zx1 : aV) (H : Q none h) : Wp X 5 206 31 [zx0, zx1] [] h Q := by
  exact wp_vret rfl rfl H
/-- RuleText.append(I)V, from 0 -/
theorem S206_53_0 {X : Nat × (Int → Int)} {h : HP} {Q : bQ} (x1 : Int) (H : ((50 ≤ (h 53 4) → Wp X 4 210 0 [vr 53, vu, vu] [] h (fun v h' => Wp X 5 206 31 [vr 53, vi x1] (psh v []) h' Q)) ∧ ((h 53 4) < 50 → ((0 ≤ (h 53 4) ∧ (h 53 4) < 50) ∧ Wp X 4 210 0 [vr 53, vu, vu] [] (upd2 (upd2 h 54 (h 53 4) x1) 53 4 ((h 53 4) + 1)) (fun v h' => Wp X 5 206 31 [vr 53, vi x1] (psh v []) h' Q))))) : Wp X 5 206 0 [vr 53, vi x1] [] h Q := by
  refine wp_aload rfl rfl ?_
  refine wp_call (k := 204) (ρ2 := 0) (L2 := [vr 53]) rfl rfl rfl (Nat.le_of_ble_eq_true rfl) (Nat.le_of_ble_eq_true rfl) (Nat.le_of_ble_eq_true rfl) (rcv_V rfl (congrArg Prod.fst (kf_53 X.1))) rfl ?_
  refine wp_aload rfl rfl ?_
  refine wp_getI (j := 4) rfl (congrArg Prod.fst (kf_53 X.1)) rfl ?_
  refine wp_iconst rfl ?_
  refine wp_icge (tn := 13) rfl rfl (fun c1 => ?_) (fun c1 => ?_)
  · replace H := H.1 c1
    refine wp_iconst rfl ?_
    refine wp_zret rfl rfl (by decide) ?_
    show Wp X _ 206 4 [vr 53, vi x1] [vi 0] _ _
    refine wp_ifeqT (tn := 27) rfl rfl (by decide) ?_
    refine wp_aload rfl rfl ?_
    exact wp_call (k := 210) (ρ2 := 4) (L2 := [vr 53, vu, vu]) rfl rfl rfl (Nat.le_of_ble_eq_true rfl) (Nat.le_of_ble_eq_true rfl) (Nat.le_of_ble_eq_true rfl) (rcv_V rfl (congrArg Prod.fst (kf_53 X.1))) rfl H
  · replace H := H.2 c1
    refine wp_iconst rfl ?_
    refine wp_goto (tn := 14) rfl rfl ?_
    refine wp_zret rfl rfl (by decide) ?_
    show Wp X _ 206 4 [vr 53, vi x1] [vi 1] _ _
    refine wp_ifeqF (tn := 27) rfl rfl (by decide) ?_
    refine wp_aload rfl rfl ?_
    refine wp_getR (r := 53) rfl (congrArg Prod.fst (kf_53 X.1)) rfl ?_
    refine wp_aload rfl rfl ?_
    refine wp_getI (j := 4) rfl (congrArg Prod.fst (kf_53 X.1)) rfl ?_
    refine wp_iload rfl rfl ?_
    have g2 := H.1
    replace H := H.2
    refine wp_iastore rfl (kf_54 X.1) g2 ?_
    refine wp_aload rfl rfl ?_
    refine wp_dupR rfl ?_
    refine wp_getI (j := 4) rfl (congrArg Prod.fst (kf_53 X.1)) rfl ?_
    refine Wp.topI (y := (h 53 4)) (congrFun (upd2_ne (by decide)) _) ?_
    refine wp_iconst rfl ?_
    refine wp_iadd rfl ?_
    refine Wp.topI (y := ((h 53 4) + 1)) (w32_I (by clear H; unfold R32; omega)) ?_
    refine wp_putI (j := 4) rfl (congrArg Prod.fst (kf_53 X.1)) rfl rfl rfl ?_
    refine wp_aload rfl rfl ?_
    exact wp_call (k := 210) (ρ2 := 4) (L2 := [vr 53, vu, vu]) rfl rfl rfl (Nat.le_of_ble_eq_true rfl) (Nat.le_of_ble_eq_true rfl) (Nat.le_of_ble_eq_true rfl) (rcv_V rfl (congrArg Prod.fst (kf_53 X.1))) rfl H
/-- RuleText.append(I)V, from 31 -/
theorem S206_53_31 {X : Nat × (Int → Int)} {h : HP} {Q : bQ} (zx0 : aV) (zx1 : aV) (H : Q none h) : Wp X 5 206 31 [zx0, zx1] [] h Q := by
  exact wp_vret rfl rfl H
/-- RuleText.empty()V, from 0 -/
theorem S207_45_0 {X : Nat × (Int → Int)} {h : HP} {Q : bQ}  (H : Wp X 4 210 0 [vr 45, vu, vu] [] (upd2 h 45 4 0) (fun v h' => Wp X 5 207 9 [vr 45] (psh v []) h' Q)) : Wp X 5 207 0 [vr 45] [] h Q := by
  refine wp_aload rfl rfl ?_
  refine wp_iconst rfl ?_
  refine wp_putI (j := 4) rfl (congrArg Prod.fst (kf_45 X.1)) rfl rfl rfl ?_
  refine wp_aload rfl rfl ?_
  exact wp_call (k := 210) (ρ2 := 4) (L2 := [vr 45, vu, vu]) rfl rfl rfl (Nat.le_of_ble_eq_true rfl) (Nat.le_of_ble_eq_true rfl) (Nat.le_of_ble_eq_true rfl) (rcv_V rfl (congrArg Prod.fst (kf_45 X.1))) rfl H
/-- RuleText.empty()V, from 9 -/
theorem S207_45_9 {X : Nat × (Int → Int)} {h : HP} {Q : bQ} (zx0 : aV) (H : Q none h) : Wp X 5 207 9 [zx0] [] h Q := by
  exact wp_vret rfl rfl H
/-- RuleText.empty()V, from 0 -/
theorem S207_53_0 {X : Nat × (Int → Int)} {h : HP} {Q : bQ}  (H : Wp X 4 210 0 [vr 53, vu, vu] [] (upd2 h 53 4 0) (fun v h' => Wp X 5 207 9 [vr 53] (psh v []) h' Q)) : Wp X 5 207 0 [vr 53] [] h Q := by
  refine wp_aload rfl rfl ?_
  refine wp_iconst rfl ?_
  refine wp_putI (j := 4) rfl (congrArg Prod.fst (kf_53 X.1)) rfl rfl rfl ?_
  refine wp_aload rfl rfl ?_
  exact wp_call (k := 210) (ρ2 := 4) (L2 := [vr 53, vu, vu]) rfl rfl rfl (Nat.le_of_ble_eq_true rfl) (Nat.le_of_ble_eq_true rfl) (Nat.le_of_ble_eq_true rfl) (rcv_V rfl (congrArg Prod.fst (kf_53 X.1))) rfl H
/-- RuleText.empty()V, from 9 -/
theorem S207_53_9 {X : Nat × (Int → Int)} {h : HP} {Q : bQ} (zx0 : aV) (H : Q none h) : Wp X 5 207 9 [zx0] [] h Q := by
  exact wp_vret rfl rfl H
/-- RuleText.isWarnedBy(L$Row;I)Z, from 0 -/
theorem S208_45_37_0 {X : Nat × (Int → Int)} {h : HP} {Q : bQ} (x2 : Int) (H : ((x2 < 0 → (((h 45 7) ≤ 0 → Q (some (vi 1)) h) ∧ (0 < (h 45 7) → (((h 45 8) ≤ 0 → Q (some (vi 1)) h) ∧ (0 < (h 45 8) → Wp X 2 246 0 [vr 49, vr 37, vi x2, vu, vu, vu, vu, vu, vu] [] h (fun v h' => Wp X 3 208 33 [vr 45, vr 37, vi x2] (psh v []) h' Q)))))) ∧ (0 ≤ x2 → (((h 37 6) ≤ x2 → (((h 45 7) ≤ 0 → Q (some (vi 1)) h) ∧ (0 < (h 45 7) → (((h 45 8) ≤ 0 → Q (some (vi 1)) h) ∧ (0 < (h 45 8) → Wp X 2 246 0 [vr 49, vr 37, vi x2, vu, vu, vu, vu, vu, vu] [] h (fun v h' => Wp X 3 208 33 [vr 45, vr 37, vi x2] (psh v []) h' Q)))))) ∧ (x2 < (h 37 6) → ((0 ≤ x2 ∧ x2 < 20) ∧ (((h 45 7) ≤ (h 42 x2) → Q (some (vi 1)) h) ∧ ((h 42 x2) < (h 45 7) → (((h 45 8) ≤ (h 43 x2) → Q (some (vi 1)) h) ∧ ((h 43 x2) < (h 45 8) → Wp X 2 246 0 [vr 49, vr 37, vi x2, vu, vu, vu, vu, vu, vu] [] h (fun v h' => Wp X 3 208 33 [vr 45, vr 37, vi x2] (psh v []) h' Q))))))))))) : Wp X 3 208 0 [vr 45, vr 37, vi x2] [] h Q := by
  refine wp_aload rfl rfl ?_
  refine wp_iload rfl rfl ?_
  refine wp_call (k := 193) (ρ2 := 1) (L2 := [vr 37, vi x2]) rfl rfl rfl (Nat.le_of_ble_eq_true rfl) (Nat.le_of_ble_eq_true rfl) (Nat.le_of_ble_eq_true rfl) (rcv_V rfl (congrArg Prod.fst (kf_37 X.1))) rfl ?_
  refine wp_aload rfl rfl ?_
  refine wp_iload rfl rfl ?_
  refine wp_call (k := 189) (ρ2 := 0) (L2 := [vr 37, vi x2]) rfl rfl rfl (Nat.le_of_ble_eq_true rfl) (Nat.le_of_ble_eq_true rfl) (Nat.le_of_ble_eq_true rfl) (rcv_V rfl (congrArg Prod.fst (kf_37 X.1))) rfl ?_
  refine wp_iload rfl rfl ?_
  refine wp_iflt (tn := 16) rfl rfl (fun c1 => ?_) (fun c1 => ?_)
  · replace H := H.1 c1
    refine wp_iconst rfl ?_
    refine wp_zret rfl rfl (by decide) ?_
    show Wp X _ 193 5 [vr 37, vi x2] [vi 0] _ _
    refine wp_ifeqT (tn := 17) rfl rfl (by decide) ?_
    refine wp_iconst rfl ?_
    refine wp_iret rfl rfl ?_
    show Wp X _ 208 5 [vr 45, vr 37, vi x2] [vi 0] _ _
    refine wp_aload rfl rfl ?_
    refine wp_getI (j := 7) rfl (congrArg Prod.fst (kf_45 X.1)) rfl ?_
    refine wp_icge (tn := 38) rfl rfl (fun c2 => ?_) (fun c2 => ?_)
    · replace H := H.1 c2
      refine wp_iconst rfl ?_
      refine wp_goto (tn := 43) rfl rfl ?_
      exact wp_zret rfl rfl (by decide) H
    · replace H := H.2 c2
      refine wp_aload rfl rfl ?_
      refine wp_iload rfl rfl ?_
      refine wp_call (k := 194) (ρ2 := 1) (L2 := [vr 37, vi x2]) rfl rfl rfl (Nat.le_of_ble_eq_true rfl) (Nat.le_of_ble_eq_true rfl) (Nat.le_of_ble_eq_true rfl) (rcv_V rfl (congrArg Prod.fst (kf_37 X.1))) rfl ?_
      refine wp_aload rfl rfl ?_
      refine wp_iload rfl rfl ?_
      refine wp_call (k := 189) (ρ2 := 0) (L2 := [vr 37, vi x2]) rfl rfl rfl (Nat.le_of_ble_eq_true rfl) (Nat.le_of_ble_eq_true rfl) (Nat.le_of_ble_eq_true rfl) (rcv_V rfl (congrArg Prod.fst (kf_37 X.1))) rfl ?_
      refine wp_iload rfl rfl ?_
      refine wp_ifltT (tn := 16) rfl rfl c1 ?_
      refine wp_iconst rfl ?_
      refine wp_zret rfl rfl (by decide) ?_
      show Wp X _ 194 5 [vr 37, vi x2] [vi 0] _ _
      refine wp_ifeqT (tn := 17) rfl rfl (by decide) ?_
      refine wp_iconst rfl ?_
      refine wp_iret rfl rfl ?_
      show Wp X _ 208 17 [vr 45, vr 37, vi x2] [vi 0] _ _
      refine wp_aload rfl rfl ?_
      refine wp_getI (j := 8) rfl (congrArg Prod.fst (kf_45 X.1)) rfl ?_
      refine wp_icge (tn := 38) rfl rfl (fun c3 => ?_) (fun c3 => ?_)
      · replace H := H.1 c3
        refine wp_iconst rfl ?_
        refine wp_goto (tn := 43) rfl rfl ?_
        exact wp_zret rfl rfl (by decide) H
      · replace H := H.2 c3
        refine wp_aload rfl rfl ?_
        refine wp_getR (r := 48) rfl (congrArg Prod.fst (kf_45 X.1)) rfl ?_
        refine wp_aload rfl rfl ?_
        refine wp_iload rfl rfl ?_
        exact wp_call (k := 246) (ρ2 := 2) (L2 := [vr 49, vr 37, vi x2, vu, vu, vu, vu, vu, vu]) rfl rfl rfl (Nat.le_of_ble_eq_true rfl) (Nat.le_of_ble_eq_true rfl) (Nat.le_of_ble_eq_true rfl) (rcv_V rfl (congrArg Prod.fst (kf_49 X.1))) rfl H
  · replace H := H.2 c1
    refine wp_iload rfl rfl ?_
    refine wp_aload rfl rfl ?_
    refine wp_getI (j := 6) rfl (congrArg Prod.fst (kf_37 X.1)) rfl ?_
    refine wp_icge (tn := 16) rfl rfl (fun c4 => ?_) (fun c4 => ?_)
    · replace H := H.1 c4
      refine wp_iconst rfl ?_
      refine wp_zret rfl rfl (by decide) ?_
      show Wp X _ 193 5 [vr 37, vi x2] [vi 0] _ _
      refine wp_ifeqT (tn := 17) rfl rfl (by decide) ?_
      refine wp_iconst rfl ?_
      refine wp_iret rfl rfl ?_
      show Wp X _ 208 5 [vr 45, vr 37, vi x2] [vi 0] _ _
      refine wp_aload rfl rfl ?_
      refine wp_getI (j := 7) rfl (congrArg Prod.fst (kf_45 X.1)) rfl ?_
      refine wp_icge (tn := 38) rfl rfl (fun c5 => ?_) (fun c5 => ?_)
      · replace H := H.1 c5
        refine wp_iconst rfl ?_
        refine wp_goto (tn := 43) rfl rfl ?_
        exact wp_zret rfl rfl (by decide) H
      · replace H := H.2 c5
        refine wp_aload rfl rfl ?_
        refine wp_iload rfl rfl ?_
        refine wp_call (k := 194) (ρ2 := 1) (L2 := [vr 37, vi x2]) rfl rfl rfl (Nat.le_of_ble_eq_true rfl) (Nat.le_of_ble_eq_true rfl) (Nat.le_of_ble_eq_true rfl) (rcv_V rfl (congrArg Prod.fst (kf_37 X.1))) rfl ?_
        refine wp_aload rfl rfl ?_
        refine wp_iload rfl rfl ?_
        refine wp_call (k := 189) (ρ2 := 0) (L2 := [vr 37, vi x2]) rfl rfl rfl (Nat.le_of_ble_eq_true rfl) (Nat.le_of_ble_eq_true rfl) (Nat.le_of_ble_eq_true rfl) (rcv_V rfl (congrArg Prod.fst (kf_37 X.1))) rfl ?_
        refine wp_iload rfl rfl ?_
        refine wp_ifltF (tn := 16) rfl rfl c1 ?_
        refine wp_iload rfl rfl ?_
        refine wp_aload rfl rfl ?_
        refine wp_getI (j := 6) rfl (congrArg Prod.fst (kf_37 X.1)) rfl ?_
        refine wp_icgeT (tn := 16) rfl rfl c4 ?_
        refine wp_iconst rfl ?_
        refine wp_zret rfl rfl (by decide) ?_
        show Wp X _ 194 5 [vr 37, vi x2] [vi 0] _ _
        refine wp_ifeqT (tn := 17) rfl rfl (by decide) ?_
        refine wp_iconst rfl ?_
        refine wp_iret rfl rfl ?_
        show Wp X _ 208 17 [vr 45, vr 37, vi x2] [vi 0] _ _
        refine wp_aload rfl rfl ?_
        refine wp_getI (j := 8) rfl (congrArg Prod.fst (kf_45 X.1)) rfl ?_
        refine wp_icge (tn := 38) rfl rfl (fun c6 => ?_) (fun c6 => ?_)
        · replace H := H.1 c6
          refine wp_iconst rfl ?_
          refine wp_goto (tn := 43) rfl rfl ?_
          exact wp_zret rfl rfl (by decide) H
        · replace H := H.2 c6
          refine wp_aload rfl rfl ?_
          refine wp_getR (r := 48) rfl (congrArg Prod.fst (kf_45 X.1)) rfl ?_
          refine wp_aload rfl rfl ?_
          refine wp_iload rfl rfl ?_
          exact wp_call (k := 246) (ρ2 := 2) (L2 := [vr 49, vr 37, vi x2, vu, vu, vu, vu, vu, vu]) rfl rfl rfl (Nat.le_of_ble_eq_true rfl) (Nat.le_of_ble_eq_true rfl) (Nat.le_of_ble_eq_true rfl) (rcv_V rfl (congrArg Prod.fst (kf_49 X.1))) rfl H
    · replace H := H.2 c4
      refine wp_iconst rfl ?_
      refine wp_goto (tn := 17) rfl rfl ?_
      refine wp_zret rfl rfl (by decide) ?_
      show Wp X _ 193 5 [vr 37, vi x2] [vi 1] _ _
      refine wp_ifeqF (tn := 17) rfl rfl (by decide) ?_
      refine wp_aload rfl rfl ?_
      refine wp_getR (r := 41) rfl (congrArg Prod.fst (kf_37 X.1)) rfl ?_
      refine wp_iload rfl rfl ?_
      have g7 := H.1
      replace H := H.2
      refine wp_iaload rfl (kf_42 X.1) g7 ?_
      refine wp_goto (tn := 18) rfl rfl ?_
      refine wp_iret rfl rfl ?_
      show Wp X _ 208 5 [vr 45, vr 37, vi x2] [vi (h 42 x2)] _ _
      refine wp_aload rfl rfl ?_
      refine wp_getI (j := 7) rfl (congrArg Prod.fst (kf_45 X.1)) rfl ?_
      refine wp_icge (tn := 38) rfl rfl (fun c8 => ?_) (fun c8 => ?_)
      · replace H := H.1 c8
        refine wp_iconst rfl ?_
        refine wp_goto (tn := 43) rfl rfl ?_
        exact wp_zret rfl rfl (by decide) H
      · replace H := H.2 c8
        refine wp_aload rfl rfl ?_
        refine wp_iload rfl rfl ?_
        refine wp_call (k := 194) (ρ2 := 1) (L2 := [vr 37, vi x2]) rfl rfl rfl (Nat.le_of_ble_eq_true rfl) (Nat.le_of_ble_eq_true rfl) (Nat.le_of_ble_eq_true rfl) (rcv_V rfl (congrArg Prod.fst (kf_37 X.1))) rfl ?_
        refine wp_aload rfl rfl ?_
        refine wp_iload rfl rfl ?_
        refine wp_call (k := 189) (ρ2 := 0) (L2 := [vr 37, vi x2]) rfl rfl rfl (Nat.le_of_ble_eq_true rfl) (Nat.le_of_ble_eq_true rfl) (Nat.le_of_ble_eq_true rfl) (rcv_V rfl (congrArg Prod.fst (kf_37 X.1))) rfl ?_
        refine wp_iload rfl rfl ?_
        refine wp_ifltF (tn := 16) rfl rfl g7.1 ?_
        refine wp_iload rfl rfl ?_
        refine wp_aload rfl rfl ?_
        refine wp_getI (j := 6) rfl (congrArg Prod.fst (kf_37 X.1)) rfl ?_
        refine wp_icgeF (tn := 16) rfl rfl c4 ?_
        refine wp_iconst rfl ?_
        refine wp_goto (tn := 17) rfl rfl ?_
        refine wp_zret rfl rfl (by decide) ?_
        show Wp X _ 194 5 [vr 37, vi x2] [vi 1] _ _
        refine wp_ifeqF (tn := 17) rfl rfl (by decide) ?_
        refine wp_aload rfl rfl ?_
        refine wp_getR (r := 42) rfl (congrArg Prod.fst (kf_37 X.1)) rfl ?_
        refine wp_iload rfl rfl ?_
        refine wp_iaload rfl (kf_43 X.1) ⟨g7.1, g7.2⟩ ?_
        refine wp_goto (tn := 18) rfl rfl ?_
        refine wp_iret rfl rfl ?_
        show Wp X _ 208 17 [vr 45, vr 37, vi x2] [vi (h 43 x2)] _ _
        refine wp_aload rfl rfl ?_
        refine wp_getI (j := 8) rfl (congrArg Prod.fst (kf_45 X.1)) rfl ?_
        refine wp_icge (tn := 38) rfl rfl (fun c9 => ?_) (fun c9 => ?_)
        · replace H := H.1 c9
          refine wp_iconst rfl ?_
          refine wp_goto (tn := 43) rfl rfl ?_
          exact wp_zret rfl rfl (by decide) H
        · replace H := H.2 c9
          refine wp_aload rfl rfl ?_
          refine wp_getR (r := 48) rfl (congrArg Prod.fst (kf_45 X.1)) rfl ?_
          refine wp_aload rfl rfl ?_
          refine wp_iload rfl rfl ?_
          exact wp_call (k := 246) (ρ2 := 2) (L2 := [vr 49, vr 37, vi x2, vu, vu, vu, vu, vu, vu]) rfl rfl rfl (Nat.le_of_ble_eq_true rfl) (Nat.le_of_ble_eq_true rfl) (Nat.le_of_ble_eq_true rfl) (rcv_V rfl (congrArg Prod.fst (kf_49 X.1))) rfl H
/-- RuleText.isWarnedBy(L$Row;I)Z, from 33 -/
theorem S208_45_37_33 {X : Nat × (Int → Int)} {h : HP} {Q : bQ} (zx0 : aV) (zx1 : aV) (zx2 : aV) (s0 : Int) (H : (((lcp s0 0) = 0 → Q (some (vi 0)) h) ∧ ((lcp s0 0) ≠ 0 → Q (some (vi 1)) h))) : Wp X 3 208 33 [zx0, zx1, zx2] [vl s0] h Q := by
  refine wp_sipush rfl ?_
  refine wp_lcmp rfl ?_
  refine wp_ifeq (tn := 42) rfl rfl (fun c1 => ?_) (fun c1 => ?_)
  · replace H := H.1 c1
    refine wp_iconst rfl ?_
    exact wp_zret rfl rfl (by decide) H
  · replace H := H.2 c1
    refine wp_iconst rfl ?_
    refine wp_goto (tn := 43) rfl rfl ?_
    exact wp_zret rfl rfl (by decide) H
/-- RuleText.isWarnedBy(L$Row;I)Z, from 0 -/
theorem S208_45_62_0 {X : Nat × (Int → Int)} {h : HP} {Q : bQ} (x2 : Int) (H : ((x2 < 0 → (((h 45 7) ≤ 0 → Q (some (vi 1)) h) ∧ (0 < (h 45 7) → (((h 45 8) ≤ 0 → Q (some (vi 1)) h) ∧ (0 < (h 45 8) → Wp X 2 246 0 [vr 49, vr 62, vi x2, vu, vu, vu, vu, vu, vu] [] h (fun v h' => Wp X 3 208 33 [vr 45, vr 62, vi x2] (psh v []) h' Q)))))) ∧ (0 ≤ x2 → (((h 62 6) ≤ x2 → (((h 45 7) ≤ 0 → Q (some (vi 1)) h) ∧ (0 < (h 45 7) → (((h 45 8) ≤ 0 → Q (some (vi 1)) h) ∧ (0 < (h 45 8) → Wp X 2 246 0 [vr 49, vr 62, vi x2, vu, vu, vu, vu, vu, vu] [] h (fun v h' => Wp X 3 208 33 [vr 45, vr 62, vi x2] (psh v []) h' Q)))))) ∧ (x2 < (h 62 6) → ((0 ≤ x2 ∧ x2 < 20) ∧ (((h 45 7) ≤ (h 67 x2) → Q (some (vi 1)) h) ∧ ((h 67 x2) < (h 45 7) → (((h 45 8) ≤ (h 68 x2) → Q (some (vi 1)) h) ∧ ((h 68 x2) < (h 45 8) → Wp X 2 246 0 [vr 49, vr 62, vi x2, vu, vu, vu, vu, vu, vu] [] h (fun v h' => Wp X 3 208 33 [vr 45, vr 62, vi x2] (psh v []) h' Q))))))))))) : Wp X 3 208 0 [vr 45, vr 62, vi x2] [] h Q := by
  refine wp_aload rfl rfl ?_
  refine wp_iload rfl rfl ?_
  refine wp_call (k := 193) (ρ2 := 1) (L2 := [vr 62, vi x2]) rfl rfl rfl (Nat.le_of_ble_eq_true rfl) (Nat.le_of_ble_eq_true rfl) (Nat.le_of_ble_eq_true rfl) (rcv_V rfl (congrArg Prod.fst (kf_62 X.1))) rfl ?_
  refine wp_aload rfl rfl ?_
  refine wp_iload rfl rfl ?_
  refine wp_call (k := 189) (ρ2 := 0) (L2 := [vr 62, vi x2]) rfl rfl rfl (Nat.le_of_ble_eq_true rfl) (Nat.le_of_ble_eq_true rfl) (Nat.le_of_ble_eq_true rfl) (rcv_V rfl (congrArg Prod.fst (kf_62 X.1))) rfl ?_
  refine wp_iload rfl rfl ?_
  refine wp_iflt (tn := 16) rfl rfl (fun c1 => ?_) (fun c1 => ?_)
  · replace H := H.1 c1
    refine wp_iconst rfl ?_
    refine wp_zret rfl rfl (by decide) ?_
    show Wp X _ 193 5 [vr 62, vi x2] [vi 0] _ _
    refine wp_ifeqT (tn := 17) rfl rfl (by decide) ?_
    refine wp_iconst rfl ?_
    refine wp_iret rfl rfl ?_
    show Wp X _ 208 5 [vr 45, vr 62, vi x2] [vi 0] _ _
    refine wp_aload rfl rfl ?_
    refine wp_getI (j := 7) rfl (congrArg Prod.fst (kf_45 X.1)) rfl ?_
    refine wp_icge (tn := 38) rfl rfl (fun c2 => ?_) (fun c2 => ?_)
    · replace H := H.1 c2
      refine wp_iconst rfl ?_
      refine wp_goto (tn := 43) rfl rfl ?_
      exact wp_zret rfl rfl (by decide) H
    · replace H := H.2 c2
      refine wp_aload rfl rfl ?_
      refine wp_iload rfl rfl ?_
      refine wp_call (k := 194) (ρ2 := 1) (L2 := [vr 62, vi x2]) rfl rfl rfl (Nat.le_of_ble_eq_true rfl) (Nat.le_of_ble_eq_true rfl) (Nat.le_of_ble_eq_true rfl) (rcv_V rfl (congrArg Prod.fst (kf_62 X.1))) rfl ?_
      refine wp_aload rfl rfl ?_
      refine wp_iload rfl rfl ?_
      refine wp_call (k := 189) (ρ2 := 0) (L2 := [vr 62, vi x2]) rfl rfl rfl (Nat.le_of_ble_eq_true rfl) (Nat.le_of_ble_eq_true rfl) (Nat.le_of_ble_eq_true rfl) (rcv_V rfl (congrArg Prod.fst (kf_62 X.1))) rfl ?_
      refine wp_iload rfl rfl ?_
      refine wp_ifltT (tn := 16) rfl rfl c1 ?_
      refine wp_iconst rfl ?_
      refine wp_zret rfl rfl (by decide) ?_
      show Wp X _ 194 5 [vr 62, vi x2] [vi 0] _ _
      refine wp_ifeqT (tn := 17) rfl rfl (by decide) ?_
      refine wp_iconst rfl ?_
      refine wp_iret rfl rfl ?_
      show Wp X _ 208 17 [vr 45, vr 62, vi x2] [vi 0] _ _
      refine wp_aload rfl rfl ?_
      refine wp_getI (j := 8) rfl (congrArg Prod.fst (kf_45 X.1)) rfl ?_
      refine wp_icge (tn := 38) rfl rfl (fun c3 => ?_) (fun c3 => ?_)
      · replace H := H.1 c3
        refine wp_iconst rfl ?_
        refine wp_goto (tn := 43) rfl rfl ?_
        exact wp_zret rfl rfl (by decide) H
      · replace H := H.2 c3
        refine wp_aload rfl rfl ?_
        refine wp_getR (r := 48) rfl (congrArg Prod.fst (kf_45 X.1)) rfl ?_
        refine wp_aload rfl rfl ?_
        refine wp_iload rfl rfl ?_
        exact wp_call (k := 246) (ρ2 := 2) (L2 := [vr 49, vr 62, vi x2, vu, vu, vu, vu, vu, vu]) rfl rfl rfl (Nat.le_of_ble_eq_true rfl) (Nat.le_of_ble_eq_true rfl) (Nat.le_of_ble_eq_true rfl) (rcv_V rfl (congrArg Prod.fst (kf_49 X.1))) rfl H
  · replace H := H.2 c1
    refine wp_iload rfl rfl ?_
    refine wp_aload rfl rfl ?_
    refine wp_getI (j := 6) rfl (congrArg Prod.fst (kf_62 X.1)) rfl ?_
    refine wp_icge (tn := 16) rfl rfl (fun c4 => ?_) (fun c4 => ?_)
    · replace H := H.1 c4
      refine wp_iconst rfl ?_
      refine wp_zret rfl rfl (by decide) ?_
      show Wp X _ 193 5 [vr 62, vi x2] [vi 0] _ _
      refine wp_ifeqT (tn := 17) rfl rfl (by decide) ?_
      refine wp_iconst rfl ?_
      refine wp_iret rfl rfl ?_
      show Wp X _ 208 5 [vr 45, vr 62, vi x2] [vi 0] _ _
      refine wp_aload rfl rfl ?_
      refine wp_getI (j := 7) rfl (congrArg Prod.fst (kf_45 X.1)) rfl ?_
      refine wp_icge (tn := 38) rfl rfl (fun c5 => ?_) (fun c5 => ?_)
      · replace H := H.1 c5
        refine wp_iconst rfl ?_
        refine wp_goto (tn := 43) rfl rfl ?_
        exact wp_zret rfl rfl (by decide) H
      · replace H := H.2 c5
        refine wp_aload rfl rfl ?_
        refine wp_iload rfl rfl ?_
        refine wp_call (k := 194) (ρ2 := 1) (L2 := [vr 62, vi x2]) rfl rfl rfl (Nat.le_of_ble_eq_true rfl) (Nat.le_of_ble_eq_true rfl) (Nat.le_of_ble_eq_true rfl) (rcv_V rfl (congrArg Prod.fst (kf_62 X.1))) rfl ?_
        refine wp_aload rfl rfl ?_
        refine wp_iload rfl rfl ?_
        refine wp_call (k := 189) (ρ2 := 0) (L2 := [vr 62, vi x2]) rfl rfl rfl (Nat.le_of_ble_eq_true rfl) (Nat.le_of_ble_eq_true rfl) (Nat.le_of_ble_eq_true rfl) (rcv_V rfl (congrArg Prod.fst (kf_62 X.1))) rfl ?_
        refine wp_iload rfl rfl ?_
        refine wp_ifltF (tn := 16) rfl rfl c1 ?_
        refine wp_iload rfl rfl ?_
        refine wp_aload rfl rfl ?_
        refine wp_getI (j := 6) rfl (congrArg Prod.fst (kf_62 X.1)) rfl ?_
        refine wp_icgeT (tn := 16) rfl rfl c4 ?_
        refine wp_iconst rfl ?_
        refine wp_zret rfl rfl (by decide) ?_
        show Wp X _ 194 5 [vr 62, vi x2] [vi 0] _ _
        refine wp_ifeqT (tn := 17) rfl rfl (by decide) ?_
        refine wp_iconst rfl ?_
        refine wp_iret rfl rfl ?_
        show Wp X _ 208 17 [vr 45, vr 62, vi x2] [vi 0] _ _
        refine wp_aload rfl rfl ?_
        refine wp_getI (j := 8) rfl (congrArg Prod.fst (kf_45 X.1)) rfl ?_
        refine wp_icge (tn := 38) rfl rfl (fun c6 => ?_) (fun c6 => ?_)
        · replace H := H.1 c6
          refine wp_iconst rfl ?_
          refine wp_goto (tn := 43) rfl rfl ?_
          exact wp_zret rfl rfl (by decide) H
        · replace H := H.2 c6
          refine wp_aload rfl rfl ?_
          refine wp_getR (r := 48) rfl (congrArg Prod.fst (kf_45 X.1)) rfl ?_
          refine wp_aload rfl rfl ?_
          refine wp_iload rfl rfl ?_
          exact wp_call (k := 246) (ρ2 := 2) (L2 := [vr 49, vr 62, vi x2, vu, vu, vu, vu, vu, vu]) rfl rfl rfl (Nat.le_of_ble_eq_true rfl) (Nat.le_of_ble_eq_true rfl) (Nat.le_of_ble_eq_true rfl) (rcv_V rfl (congrArg Prod.fst (kf_49 X.1))) rfl H
    · replace H := H.2 c4
      refine wp_iconst rfl ?_
      refine wp_goto (tn := 17) rfl rfl ?_
      refine wp_zret rfl rfl (by decide) ?_
      show Wp X _ 193 5 [vr 62, vi x2] [vi 1] _ _
      refine wp_ifeqF (tn := 17) rfl rfl (by decide) ?_
      refine wp_aload rfl rfl ?_
      refine wp_getR (r := 66) rfl (congrArg Prod.fst (kf_62 X.1)) rfl ?_
      refine wp_iload rfl rfl ?_
      have g7 := H.1
      replace H := H.2
      refine wp_iaload rfl (kf_67 X.1) g7 ?_
      refine wp_goto (tn := 18) rfl rfl ?_
      refine wp_iret rfl rfl ?_
      show Wp X _ 208 5 [vr 45, vr 62, vi x2] [vi (h 67 x2)] _ _
      refine wp_aload rfl rfl ?_
      refine wp_getI (j := 7) rfl (congrArg Prod.fst (kf_45 X.1)) rfl ?_
      refine wp_icge (tn := 38) rfl rfl (fun c8 => ?_) (fun c8 => ?_)
      · replace H := H.1 c8
        refine wp_iconst rfl ?_
        refine wp_goto (tn := 43) rfl rfl ?_
        exact wp_zret rfl rfl (by decide) H
      · replace H := H.2 c8
        refine wp_aload rfl rfl ?_
        refine wp_iload rfl rfl ?_
        refine wp_call (k := 194) (ρ2 := 1) (L2 := [vr 62, vi x2]) rfl rfl rfl (Nat.le_of_ble_eq_true rfl) (Nat.le_of_ble_eq_true rfl) (Nat.le_of_ble_eq_true rfl) (rcv_V rfl (congrArg Prod.fst (kf_62 X.1))) rfl ?_
        refine wp_aload rfl rfl ?_
        refine wp_iload rfl rfl ?_
        refine wp_call (k := 189) (ρ2 := 0) (L2 := [vr 62, vi x2]) rfl rfl rfl (Nat.le_of_ble_eq_true rfl) (Nat.le_of_ble_eq_true rfl) (Nat.le_of_ble_eq_true rfl) (rcv_V rfl (congrArg Prod.fst (kf_62 X.1))) rfl ?_
        refine wp_iload rfl rfl ?_
        refine wp_ifltF (tn := 16) rfl rfl g7.1 ?_
        refine wp_iload rfl rfl ?_
        refine wp_aload rfl rfl ?_
        refine wp_getI (j := 6) rfl (congrArg Prod.fst (kf_62 X.1)) rfl ?_
        refine wp_icgeF (tn := 16) rfl rfl c4 ?_
        refine wp_iconst rfl ?_
        refine wp_goto (tn := 17) rfl rfl ?_
        refine wp_zret rfl rfl (by decide) ?_
        show Wp X _ 194 5 [vr 62, vi x2] [vi 1] _ _
        refine wp_ifeqF (tn := 17) rfl rfl (by decide) ?_
        refine wp_aload rfl rfl ?_
        refine wp_getR (r := 67) rfl (congrArg Prod.fst (kf_62 X.1)) rfl ?_
        refine wp_iload rfl rfl ?_
        refine wp_iaload rfl (kf_68 X.1) ⟨g7.1, g7.2⟩ ?_
        refine wp_goto (tn := 18) rfl rfl ?_
        refine wp_iret rfl rfl ?_
        show Wp X _ 208 17 [vr 45, vr 62, vi x2] [vi (h 68 x2)] _ _
        refine wp_aload rfl rfl ?_
        refine wp_getI (j := 8) rfl (congrArg Prod.fst (kf_45 X.1)) rfl ?_
        refine wp_icge (tn := 38) rfl rfl (fun c9 => ?_) (fun c9 => ?_)
        · replace H := H.1 c9
          refine wp_iconst rfl ?_
          refine wp_goto (tn := 43) rfl rfl ?_
          exact wp_zret rfl rfl (by decide) H
        · replace H := H.2 c9
          refine wp_aload rfl rfl ?_
          refine wp_getR (r := 48) rfl (congrArg Prod.fst (kf_45 X.1)) rfl ?_
          refine wp_aload rfl rfl ?_
          refine wp_iload rfl rfl ?_
          exact wp_call (k := 246) (ρ2 := 2) (L2 := [vr 49, vr 62, vi x2, vu, vu, vu, vu, vu, vu]) rfl rfl rfl (Nat.le_of_ble_eq_true rfl) (Nat.le_of_ble_eq_true rfl) (Nat.le_of_ble_eq_true rfl) (rcv_V rfl (congrArg Prod.fst (kf_49 X.1))) rfl H
/-- RuleText.isWarnedBy(L$Row;I)Z, from 33 -/
theorem S208_45_62_33 {X : Nat × (Int → Int)} {h : HP} {Q : bQ} (zx0 : aV) (zx1 : aV) (zx2 : aV) (s0 : Int) (H : (((lcp s0 0) = 0 → Q (some (vi 0)) h) ∧ ((lcp s0 0) ≠ 0 → Q (some (vi 1)) h))) : Wp X 3 208 33 [zx0, zx1, zx2] [vl s0] h Q := by
  refine wp_sipush rfl ?_
  refine wp_lcmp rfl ?_
  refine wp_ifeq (tn := 42) rfl rfl (fun c1 => ?_) (fun c1 => ?_)
  · replace H := H.1 c1
    refine wp_iconst rfl ?_
    exact wp_zret rfl rfl (by decide) H
  · replace H := H.2 c1
    refine wp_iconst rfl ?_
    refine wp_goto (tn := 43) rfl rfl ?_
    exact wp_zret rfl rfl (by decide) H
/-- RuleText.isWarnedBy(L$Row;I)Z, from 0 -/
theorem S208_53_37_0 {X : Nat × (Int → Int)} {h : HP} {Q : bQ} (x2 : Int) (H : ((x2 < 0 → (((h 53 7) ≤ 0 → Q (some (vi 1)) h) ∧ (0 < (h 53 7) → (((h 53 8) ≤ 0 → Q (some (vi 1)) h) ∧ (0 < (h 53 8) → Wp X 2 246 0 [vr 57, vr 37, vi x2, vu, vu, vu, vu, vu, vu] [] h (fun v h' => Wp X 3 208 33 [vr 53, vr 37, vi x2] (psh v []) h' Q)))))) ∧ (0 ≤ x2 → (((h 37 6) ≤ x2 → (((h 53 7) ≤ 0 → Q (some (vi 1)) h) ∧ (0 < (h 53 7) → (((h 53 8) ≤ 0 → Q (some (vi 1)) h) ∧ (0 < (h 53 8) → Wp X 2 246 0 [vr 57, vr 37, vi x2, vu, vu, vu, vu, vu, vu] [] h (fun v h' => Wp X 3 208 33 [vr 53, vr 37, vi x2] (psh v []) h' Q)))))) ∧ (x2 < (h 37 6) → ((0 ≤ x2 ∧ x2 < 20) ∧ (((h 53 7) ≤ (h 42 x2) → Q (some (vi 1)) h) ∧ ((h 42 x2) < (h 53 7) → (((h 53 8) ≤ (h 43 x2) → Q (some (vi 1)) h) ∧ ((h 43 x2) < (h 53 8) → Wp X 2 246 0 [vr 57, vr 37, vi x2, vu, vu, vu, vu, vu, vu] [] h (fun v h' => Wp X 3 208 33 [vr 53, vr 37, vi x2] (psh v []) h' Q))))))))))) : Wp X 3 208 0 [vr 53, vr 37, vi x2] [] h Q := by
  refine wp_aload rfl rfl ?_
  refine wp_iload rfl rfl ?_
  refine wp_call (k := 193) (ρ2 := 1) (L2 := [vr 37, vi x2]) rfl rfl rfl (Nat.le_of_ble_eq_true rfl) (Nat.le_of_ble_eq_true rfl) (Nat.le_of_ble_eq_true rfl) (rcv_V rfl (congrArg Prod.fst (kf_37 X.1))) rfl ?_
  refine wp_aload rfl rfl ?_
  refine wp_iload rfl rfl ?_
  refine wp_call (k := 189) (ρ2 := 0) (L2 := [vr 37, vi x2]) rfl rfl rfl (Nat.le_of_ble_eq_true rfl) (Nat.le_of_ble_eq_true rfl) (Nat.le_of_ble_eq_true rfl) (rcv_V rfl (congrArg Prod.fst (kf_37 X.1))) rfl ?_
  refine wp_iload rfl rfl ?_
  refine wp_iflt (tn := 16) rfl rfl (fun c1 => ?_) (fun c1 => ?_)
  · replace H := H.1 c1
    refine wp_iconst rfl ?_
    refine wp_zret rfl rfl (by decide) ?_
    show Wp X _ 193 5 [vr 37, vi x2] [vi 0] _ _
    refine wp_ifeqT (tn := 17) rfl rfl (by decide) ?_
    refine wp_iconst rfl ?_
    refine wp_iret rfl rfl ?_
    show Wp X _ 208 5 [vr 53, vr 37, vi x2] [vi 0] _ _
    refine wp_aload rfl rfl ?_
    refine wp_getI (j := 7) rfl (congrArg Prod.fst (kf_53 X.1)) rfl ?_
    refine wp_icge (tn := 38) rfl rfl (fun c2 => ?_) (fun c2 => ?_)
    · replace H := H.1 c2
      refine wp_iconst rfl ?_
      refine wp_goto (tn := 43) rfl rfl ?_
      exact wp_zret rfl rfl (by decide) H
    · replace H := H.2 c2
      refine wp_aload rfl rfl ?_
      refine wp_iload rfl rfl ?_
      refine wp_call (k := 194) (ρ2 := 1) (L2 := [vr 37, vi x2]) rfl rfl rfl (Nat.le_of_ble_eq_true rfl) (Nat.le_of_ble_eq_true rfl) (Nat.le_of_ble_eq_true rfl) (rcv_V rfl (congrArg Prod.fst (kf_37 X.1))) rfl ?_
      refine wp_aload rfl rfl ?_
      refine wp_iload rfl rfl ?_
      refine wp_call (k := 189) (ρ2 := 0) (L2 := [vr 37, vi x2]) rfl rfl rfl (Nat.le_of_ble_eq_true rfl) (Nat.le_of_ble_eq_true rfl) (Nat.le_of_ble_eq_true rfl) (rcv_V rfl (congrArg Prod.fst (kf_37 X.1))) rfl ?_
      refine wp_iload rfl rfl ?_
      refine wp_ifltT (tn := 16) rfl rfl c1 ?_
      refine wp_iconst rfl ?_
      refine wp_zret rfl rfl (by decide) ?_
      show Wp X _ 194 5 [vr 37, vi x2] [vi 0] _ _
      refine wp_ifeqT (tn := 17) rfl rfl (by decide) ?_
      refine wp_iconst rfl ?_
      refine wp_iret rfl rfl ?_
      show Wp X _ 208 17 [vr 53, vr 37, vi x2] [vi 0] _ _
      refine wp_aload rfl rfl ?_
      refine wp_getI (j := 8) rfl (congrArg Prod.fst (kf_53 X.1)) rfl ?_
      refine wp_icge (tn := 38) rfl rfl (fun c3 => ?_) (fun c3 => ?_)
      · replace H := H.1 c3
        refine wp_iconst rfl ?_
        refine wp_goto (tn := 43) rfl rfl ?_
        exact wp_zret rfl rfl (by decide) H
      · replace H := H.2 c3
        refine wp_aload rfl rfl ?_
        refine wp_getR (r := 56) rfl (congrArg Prod.fst (kf_53 X.1)) rfl ?_
        refine wp_aload rfl rfl ?_
        refine wp_iload rfl rfl ?_
        exact wp_call (k := 246) (ρ2 := 2) (L2 := [vr 57, vr 37, vi x2, vu, vu, vu, vu, vu, vu]) rfl rfl rfl (Nat.le_of_ble_eq_true rfl) (Nat.le_of_ble_eq_true rfl) (Nat.le_of_ble_eq_true rfl) (rcv_V rfl (congrArg Prod.fst (kf_57 X.1))) rfl H
  · replace H := H.2 c1
    refine wp_iload rfl rfl ?_
    refine wp_aload rfl rfl ?_
    refine wp_getI (j := 6) rfl (congrArg Prod.fst (kf_37 X.1)) rfl ?_
    refine wp_icge (tn := 16) rfl rfl (fun c4 => ?_) (fun c4 => ?_)
    · replace H := H.1 c4
      refine wp_iconst rfl ?_
      refine wp_zret rfl rfl (by decide) ?_
      show Wp X _ 193 5 [vr 37, vi x2] [vi 0] _ _
      refine wp_ifeqT (tn := 17) rfl rfl (by decide) ?_
      refine wp_iconst rfl ?_
      refine wp_iret rfl rfl ?_
      show Wp X _ 208 5 [vr 53, vr 37, vi x2] [vi 0] _ _
      refine wp_aload rfl rfl ?_
      refine wp_getI (j := 7) rfl (congrArg Prod.fst (kf_53 X.1)) rfl ?_
      refine wp_icge (tn := 38) rfl rfl (fun c5 => ?_) (fun c5 => ?_)
      · replace H := H.1 c5
        refine wp_iconst rfl ?_
        refine wp_goto (tn := 43) rfl rfl ?_
        exact wp_zret rfl rfl (by decide) H
      · replace H := H.2 c5
        refine wp_aload rfl rfl ?_
        refine wp_iload rfl rfl ?_
        refine wp_call (k := 194) (ρ2 := 1) (L2 := [vr 37, vi x2]) rfl rfl rfl (Nat.le_of_ble_eq_true rfl) (Nat.le_of_ble_eq_true rfl) (Nat.le_of_ble_eq_true rfl) (rcv_V rfl (congrArg Prod.fst (kf_37 X.1))) rfl ?_
        refine wp_aload rfl rfl ?_
        refine wp_iload rfl rfl ?_
        refine wp_call (k := 189) (ρ2 := 0) (L2 := [vr 37, vi x2]) rfl rfl rfl (Nat.le_of_ble_eq_true rfl) (Nat.le_of_ble_eq_true rfl) (Nat.le_of_ble_eq_true rfl) (rcv_V rfl (congrArg Prod.fst (kf_37 X.1))) rfl ?_
        refine wp_iload rfl rfl ?_
        refine wp_ifltF (tn := 16) rfl rfl c1 ?_
        refine wp_iload rfl rfl ?_
        refine wp_aload rfl rfl ?_
        refine wp_getI (j := 6) rfl (congrArg Prod.fst (kf_37 X.1)) rfl ?_
        refine wp_icgeT (tn := 16) rfl rfl c4 ?_
        refine wp_iconst rfl ?_
        refine wp_zret rfl rfl (by decide) ?_
        show Wp X _ 194 5 [vr 37, vi x2] [vi 0] _ _
        refine wp_ifeqT (tn := 17) rfl rfl (by decide) ?_
        refine wp_iconst rfl ?_
        refine wp_iret rfl rfl ?_
        show Wp X _ 208 17 [vr 53, vr 37, vi x2] [vi 0] _ _
        refine wp_aload rfl rfl ?_
        refine wp_getI (j := 8) rfl (congrArg Prod.fst (kf_53 X.1)) rfl ?_
        refine wp_icge (tn := 38) rfl rfl (fun c6 => ?_) (fun c6 => ?_)
        · replace H := H.1 c6
          refine wp_iconst rfl ?_
          refine wp_goto (tn := 43) rfl rfl ?_
          exact wp_zret rfl rfl (by decide) H
        · replace H := H.2 c6
          refine wp_aload rfl rfl ?_
          refine wp_getR (r := 56) rfl (congrArg Prod.fst (kf_53 X.1)) rfl ?_
          refine wp_aload rfl rfl ?_
          refine wp_iload rfl rfl ?_
          exact wp_call (k := 246) (ρ2 := 2) (L2 := [vr 57, vr 37, vi x2, vu, vu, vu, vu, vu, vu]) rfl rfl rfl (Nat.le_of_ble_eq_true rfl) (Nat.le_of_ble_eq_true rfl) (Nat.le_of_ble_eq_true rfl) (rcv_V rfl (congrArg Prod.fst (kf_57 X.1))) rfl H
    · replace H := H.2 c4
      refine wp_iconst rfl ?_
      refine wp_goto (tn := 17) rfl rfl ?_
      refine wp_zret rfl rfl (by decide) ?_
      show Wp X _ 193 5 [vr 37, vi x2] [vi 1] _ _
      refine wp_ifeqF (tn := 17) rfl rfl (by decide) ?_
      refine wp_aload rfl rfl ?_
      refine wp_getR (r := 41) rfl (congrArg Prod.fst (kf_37 X.1)) rfl ?_
      refine wp_iload rfl rfl ?_
      have g7 := H.1
      replace H := H.2
      refine wp_iaload rfl (kf_42 X.1) g7 ?_
      refine wp_goto (tn := 18) rfl rfl ?_
      refine wp_iret rfl rfl ?_
      show Wp X _ 208 5 [vr 53, vr 37, vi x2] [vi (h 42 x2)] _ _
      refine wp_aload rfl rfl ?_
      refine wp_getI (j := 7) rfl (congrArg Prod.fst (kf_53 X.1)) rfl ?_
      refine wp_icge (tn := 38) rfl rfl (fun c8 => ?_) (fun c8 => ?_)
      · replace H := H.1 c8
        refine wp_iconst rfl ?_
        refine wp_goto (tn := 43) rfl rfl ?_
        exact wp_zret rfl rfl (by decide) H
      · replace H := H.2 c8
        refine wp_aload rfl rfl ?_
        refine wp_iload rfl rfl ?_
        refine wp_call (k := 194) (ρ2 := 1) (L2 := [vr 37, vi x2]) rfl rfl rfl (Nat.le_of_ble_eq_true rfl) (Nat.le_of_ble_eq_true rfl) (Nat.le_of_ble_eq_true rfl) (rcv_V rfl (congrArg Prod.fst (kf_37 X.1))) rfl ?_
        refine wp_aload rfl rfl ?_
        refine wp_iload rfl rfl ?_
        refine wp_call (k := 189) (ρ2 := 0) (L2 := [vr 37, vi x2]) rfl rfl rfl (Nat.le_of_ble_eq_true rfl) (Nat.le_of_ble_eq_true rfl) (Nat.le_of_ble_eq_true rfl) (rcv_V rfl (congrArg Prod.fst (kf_37 X.1))) rfl ?_
        refine wp_iload rfl rfl ?_
        refine wp_ifltF (tn := 16) rfl rfl g7.1 ?_
        refine wp_iload rfl rfl ?_
        refine wp_aload rfl rfl ?_
        refine wp_getI (j := 6) rfl (congrArg Prod.fst (kf_37 X.1)) rfl ?_
        refine wp_icgeF (tn := 16) rfl rfl c4 ?_
        refine wp_iconst rfl ?_
        refine wp_goto (tn := 17) rfl rfl ?_
        refine wp_zret rfl rfl (by decide) ?_
        show Wp X _ 194 5 [vr 37, vi x2] [vi 1] _ _
        refine wp_ifeqF (tn := 17) rfl rfl (by decide) ?_
        refine wp_aload rfl rfl ?_
        refine wp_getR (r := 42) rfl (congrArg Prod.fst (kf_37 X.1)) rfl ?_
        refine wp_iload rfl rfl ?_
        refine wp_iaload rfl (kf_43 X.1) ⟨g7.1, g7.2⟩ ?_
        refine wp_goto (tn := 18) rfl rfl ?_
        refine wp_iret rfl rfl ?_
        show Wp X _ 208 17 [vr 53, vr 37, vi x2] [vi (h 43 x2)] _ _
        refine wp_aload rfl rfl ?_
        refine wp_getI (j := 8) rfl (congrArg Prod.fst (kf_53 X.1)) rfl ?_
        refine wp_icge (tn := 38) rfl rfl (fun c9 => ?_) (fun c9 => ?_)
        · replace H := H.1 c9
          refine wp_iconst rfl ?_
          refine wp_goto (tn := 43) rfl rfl ?_
          exact wp_zret rfl rfl (by decide) H
        · replace H := H.2 c9
          refine wp_aload rfl rfl ?_
          refine wp_getR (r := 56) rfl (congrArg Prod.fst (kf_53 X.1)) rfl ?_
          refine wp_aload rfl rfl ?_
          refine wp_iload rfl rfl ?_
          exact wp_call (k := 246) (ρ2 := 2) (L2 := [vr 57, vr 37, vi x2, vu, vu, vu, vu, vu, vu]) rfl rfl rfl (Nat.le_of_ble_eq_true rfl) (Nat.le_of_ble_eq_true rfl) (Nat.le_of_ble_eq_true rfl) (rcv_V rfl (congrArg Prod.fst (kf_57 X.1))) rfl H
/-- RuleText.isWarnedBy(L$Row;I)Z, from 33 -/
theorem S208_53_37_33 {X : Nat × (Int → Int)} {h : HP} {Q : bQ} (zx0 : aV) (zx1 : aV) (zx2 : aV) (s0 : Int) (H : (((lcp s0 0) = 0 → Q (some (vi 0)) h) ∧ ((lcp s0 0) ≠ 0 → Q (some (vi 1)) h))) : Wp X 3 208 33 [zx0, zx1, zx2] [vl s0] h Q := by
  refine wp_sipush rfl ?_
  refine wp_lcmp rfl ?_
  refine wp_ifeq (tn := 42) rfl rfl (fun c1 => ?_) (fun c1 => ?_)
  · replace H := H.1 c1
    refine wp_iconst rfl ?_
    exact wp_zret rfl rfl (by decide) H
  · replace H := H.2 c1
    refine wp_iconst rfl ?_
    refine wp_goto (tn := 43) rfl rfl ?_
    exact wp_zret rfl rfl (by decide) H
/-- RuleText.isWarnedBy(L$Row;I)Z, from 0 -/
theorem S208_53_62_0 {X : Nat × (Int → Int)} {h : HP} {Q : bQ} (x2 : Int) (H : ((x2 < 0 → (((h 53 7) ≤ 0 → Q (some (vi 1)) h) ∧ (0 < (h 53 7) → (((h 53 8) ≤ 0 → Q (some (vi 1)) h) ∧ (0 < (h 53 8) → Wp X 2 246 0 [vr 57, vr 62, vi x2, vu, vu, vu, vu, vu, vu] [] h (fun v h' => Wp X 3 208 33 [vr 53, vr 62, vi x2] (psh v []) h' Q)))))) ∧ (0 ≤ x2 → (((h 62 6) ≤ x2 → (((h 53 7) ≤ 0 → Q (some (vi 1)) h) ∧ (0 < (h 53 7) → (((h 53 8) ≤ 0 → Q (some (vi 1)) h) ∧ (0 < (h 53 8) → Wp X 2 246 0 [vr 57, vr 62, vi x2, vu, vu, vu, vu, vu, vu] [] h (fun v h' => Wp X 3 208 33 [vr 53, vr 62, vi x2] (psh v []) h' Q)))))) ∧ (x2 < (h 62 6) → ((0 ≤ x2 ∧ x2 < 20) ∧ (((h 53 7) ≤ (h 67 x2) → Q (some (vi 1)) h) ∧ ((h 67 x2) < (h 53 7) → (((h 53 8) ≤ (h 68 x2) → Q (some (vi 1)) h) ∧ ((h 68 x2) < (h 53 8) → Wp X 2 246 0 [vr 57, vr 62, vi x2, vu, vu, vu, vu, vu, vu] [] h (fun v h' => Wp X 3 208 33 [vr 53, vr 62, vi x2] (psh v []) h' Q))))))))))) : Wp X 3 208 0 [vr 53, vr 62, vi x2] [] h Q := by
  refine wp_aload rfl rfl ?_
  refine wp_iload rfl rfl ?_
  refine wp_call (k := 193) (ρ2 := 1) (L2 := [vr 62, vi x2]) rfl rfl rfl (Nat.le_of_ble_eq_true rfl) (Nat.le_of_ble_eq_true rfl) (Nat.le_of_ble_eq_true rfl) (rcv_V rfl (congrArg Prod.fst (kf_62 X.1))) rfl ?_
  refine wp_aload rfl rfl ?_
  refine wp_iload rfl rfl ?_
  refine wp_call (k := 189) (ρ2 := 0) (L2 := [vr 62, vi x2]) rfl rfl rfl (Nat.le_of_ble_eq_true rfl) (Nat.le_of_ble_eq_true rfl) (Nat.le_of_ble_eq_true rfl) (rcv_V rfl (congrArg Prod.fst (kf_62 X.1))) rfl ?_
  refine wp_iload rfl rfl ?_
  refine wp_iflt (tn := 16) rfl rfl (fun c1 => ?_) (fun c1 => ?_)
  · replace H := H.1 c1
    refine wp_iconst rfl ?_
    refine wp_zret rfl rfl (by decide) ?_
    show Wp X _ 193 5 [vr 62, vi x2] [vi 0] _ _
    refine wp_ifeqT (tn := 17) rfl rfl (by decide) ?_
    refine wp_iconst rfl ?_
    refine wp_iret rfl rfl ?_
    show Wp X _ 208 5 [vr 53, vr 62, vi x2] [vi 0] _ _
    refine wp_aload rfl rfl ?_
    refine wp_getI (j := 7) rfl (congrArg Prod.fst (kf_53 X.1)) rfl ?_
    refine wp_icge (tn := 38) rfl rfl (fun c2 => ?_) (fun c2 => ?_)
    · replace H := H.1 c2
      refine wp_iconst rfl ?_
      refine wp_goto (tn := 43) rfl rfl ?_
      exact wp_zret rfl rfl (by decide) H
    · replace H := H.2 c2
      refine wp_aload rfl rfl ?_
      refine wp_iload rfl rfl ?_
      refine wp_call (k := 194) (ρ2 := 1) (L2 := [vr 62, vi x2]) rfl rfl rfl (Nat.le_of_ble_eq_true rfl) (Nat.le_of_ble_eq_true rfl) (Nat.le_of_ble_eq_true rfl) (rcv_V rfl (congrArg Prod.fst (kf_62 X.1))) rfl ?_
      refine wp_aload rfl rfl ?_
      refine wp_iload rfl rfl ?_
      refine wp_call (k := 189) (ρ2 := 0) (L2 := [vr 62, vi x2]) rfl rfl rfl (Nat.le_of_ble_eq_true rfl) (Nat.le_of_ble_eq_true rfl) (Nat.le_of_ble_eq_true rfl) (rcv_V rfl (congrArg Prod.fst (kf_62 X.1))) rfl ?_
      refine wp_iload rfl rfl ?_
      refine wp_ifltT (tn := 16) rfl rfl c1 ?_
      refine wp_iconst rfl ?_
      refine wp_zret rfl rfl (by decide) ?_
      show Wp X _ 194 5 [vr 62, vi x2] [vi 0] _ _
      refine wp_ifeqT (tn := 17) rfl rfl (by decide) ?_
      refine wp_iconst rfl ?_
      refine wp_iret rfl rfl ?_
      show Wp X _ 208 17 [vr 53, vr 62, vi x2] [vi 0] _ _
      refine wp_aload rfl rfl ?_
      refine wp_getI (j := 8) rfl (congrArg Prod.fst (kf_53 X.1)) rfl ?_
      refine wp_icge (tn := 38) rfl rfl (fun c3 => ?_) (fun c3 => ?_)
      · replace H := H.1 c3
        refine wp_iconst rfl ?_
        refine wp_goto (tn := 43) rfl rfl ?_
        exact wp_zret rfl rfl (by decide) H
      · replace H := H.2 c3
        refine wp_aload rfl rfl ?_
        refine wp_getR (r := 56) rfl (congrArg Prod.fst (kf_53 X.1)) rfl ?_
        refine wp_aload rfl rfl ?_
        refine wp_iload rfl rfl ?_
        exact wp_call (k := 246) (ρ2 := 2) (L2 := [vr 57, vr 62, vi x2, vu, vu, vu, vu, vu, vu]) rfl rfl rfl (Nat.le_of_ble_eq_true rfl) (Nat.le_of_ble_eq_true rfl) (Nat.le_of_ble_eq_true rfl) (rcv_V rfl (congrArg Prod.fst (kf_57 X.1))) rfl H
  · replace H := H.2 c1
    refine wp_iload rfl rfl ?_
    refine wp_aload rfl rfl ?_
    refine wp_getI (j := 6) rfl (congrArg Prod.fst (kf_62 X.1)) rfl ?_
    refine wp_icge (tn := 16) rfl rfl (fun c4 => ?_) (fun c4 => ?_)
    · replace H := H.1 c4
      refine wp_iconst rfl ?_
      refine wp_zret rfl rfl (by decide) ?_
      show Wp X _ 193 5 [vr 62, vi x2] [vi 0] _ _
      refine wp_ifeqT (tn := 17) rfl rfl (by decide) ?_
      refine wp_iconst rfl ?_
      refine wp_iret rfl rfl ?_
      show Wp X _ 208 5 [vr 53, vr 62, vi x2] [vi 0] _ _
      refine wp_aload rfl rfl ?_
      refine wp_getI (j := 7) rfl (congrArg Prod.fst (kf_53 X.1)) rfl ?_
      refine wp_icge (tn := 38) rfl rfl (fun c5 => ?_) (fun c5 => ?_)
      · replace H := H.1 c5
        refine wp_iconst rfl ?_
        refine wp_goto (tn := 43) rfl rfl ?_
        exact wp_zret rfl rfl (by decide) H
      · replace H := H.2 c5
        refine wp_aload rfl rfl ?_
        refine wp_iload rfl rfl ?_
        refine wp_call (k := 194) (ρ2 := 1) (L2 := [vr 62, vi x2]) rfl rfl rfl (Nat.le_of_ble_eq_true rfl) (Nat.le_of_ble_eq_true rfl) (Nat.le_of_ble_eq_true rfl) (rcv_V rfl (congrArg Prod.fst (kf_62 X.1))) rfl ?_
        refine wp_aload rfl rfl ?_
        refine wp_iload rfl rfl ?_
        refine wp_call (k := 189) (ρ2 := 0) (L2 := [vr 62, vi x2]) rfl rfl rfl (Nat.le_of_ble_eq_true rfl) (Nat.le_of_ble_eq_true rfl) (Nat.le_of_ble_eq_true rfl) (rcv_V rfl (congrArg Prod.fst (kf_62 X.1))) rfl ?_
        refine wp_iload rfl rfl ?_
        refine wp_ifltF (tn := 16) rfl rfl c1 ?_
        refine wp_iload rfl rfl ?_
        refine wp_aload rfl rfl ?_
        refine wp_getI (j := 6) rfl (congrArg Prod.fst (kf_62 X.1)) rfl ?_
        refine wp_icgeT (tn := 16) rfl rfl c4 ?_
        refine wp_iconst rfl ?_
        refine wp_zret rfl rfl (by decide) ?_
        show Wp X _ 194 5 [vr 62, vi x2] [vi 0] _ _
        refine wp_ifeqT (tn := 17) rfl rfl (by decide) ?_
        refine wp_iconst rfl ?_
        refine wp_iret rfl rfl ?_
        show Wp X _ 208 17 [vr 53, vr 62, vi x2] [vi 0] _ _
        refine wp_aload rfl rfl ?_
        refine wp_getI (j := 8) rfl (congrArg Prod.fst (kf_53 X.1)) rfl ?_
        refine wp_icge (tn := 38) rfl rfl (fun c6 => ?_) (fun c6 => ?_)
        · replace H := H.1 c6
          refine wp_iconst rfl ?_
          refine wp_goto (tn := 43) rfl rfl ?_
          exact wp_zret rfl rfl (by decide) H
        · replace H := H.2 c6
          refine wp_aload rfl rfl ?_
          refine wp_getR (r := 56) rfl (congrArg Prod.fst (kf_53 X.1)) rfl ?_
          refine wp_aload rfl rfl ?_
          refine wp_iload rfl rfl ?_
          exact wp_call (k := 246) (ρ2 := 2) (L2 := [vr 57, vr 62, vi x2, vu, vu, vu, vu, vu, vu]) rfl rfl rfl (Nat.le_of_ble_eq_true rfl) (Nat.le_of_ble_eq_true rfl) (Nat.le_of_ble_eq_true rfl) (rcv_V rfl (congrArg Prod.fst (kf_57 X.1))) rfl H
    · replace H := H.2 c4
      refine wp_iconst rfl ?_
      refine wp_goto (tn := 17) rfl rfl ?_
      refine wp_zret rfl rfl (by decide) ?_
      show Wp X _ 193 5 [vr 62, vi x2] [vi 1] _ _
      refine wp_ifeqF (tn := 17) rfl rfl (by decide) ?_
      refine wp_aload rfl rfl ?_
      refine wp_getR (r := 66) rfl (congrArg Prod.fst (kf_62 X.1)) rfl ?_
      refine wp_iload rfl rfl ?_
      have g7 := H.1
      replace H := H.2
      refine wp_iaload rfl (kf_67 X.1) g7 ?_
      refine wp_goto (tn := 18) rfl rfl ?_
      refine wp_iret rfl rfl ?_
      show Wp X _ 208 5 [vr 53, vr 62, vi x2] [vi (h 67 x2)] _ _
      refine wp_aload rfl rfl ?_
      refine wp_getI (j := 7) rfl (congrArg Prod.fst (kf_53 X.1)) rfl ?_
      refine wp_icge (tn := 38) rfl rfl (fun c8 => ?_) (fun c8 => ?_)
      · replace H := H.1 c8
        refine wp_iconst rfl ?_
        refine wp_goto (tn := 43) rfl rfl ?_
        exact wp_zret rfl rfl (by decide) H
      · replace H := H.2 c8
        refine wp_aload rfl rfl ?_
        refine wp_iload rfl rfl ?_
        refine wp_call (k := 194) (ρ2 := 1) (L2 := [vr 62, vi x2]) rfl rfl rfl (Nat.le_of_ble_eq_true rfl) (Nat.le_of_ble_eq_true rfl) (Nat.le_of_ble_eq_true rfl) (rcv_V rfl (congrArg Prod.fst (kf_62 X.1))) rfl ?_
        refine wp_aload rfl rfl ?_
        refine wp_iload rfl rfl ?_
        refine wp_call (k := 189) (ρ2 := 0) (L2 := [vr 62, vi x2]) rfl rfl rfl (Nat.le_of_ble_eq_true rfl) (Nat.le_of_ble_eq_true rfl) (Nat.le_of_ble_eq_true rfl) (rcv_V rfl (congrArg Prod.fst (kf_62 X.1))) rfl ?_
        refine wp_iload rfl rfl ?_
        refine wp_ifltF (tn := 16) rfl rfl g7.1 ?_
        refine wp_iload rfl rfl ?_
        refine wp_aload rfl rfl ?_
        refine wp_getI (j := 6) rfl (congrArg Prod.fst (kf_62 X.1)) rfl ?_
        refine wp_icgeF (tn := 16) rfl rfl c4 ?_
        refine wp_iconst rfl ?_
        refine wp_goto (tn := 17) rfl rfl ?_
        refine wp_zret rfl rfl (by decide) ?_
        show Wp X _ 194 5 [vr 62, vi x2] [vi 1] _ _
        refine wp_ifeqF (tn := 17) rfl rfl (by decide) ?_
        refine wp_aload rfl rfl ?_
        refine wp_getR (r := 67) rfl (congrArg Prod.fst (kf_62 X.1)) rfl ?_
        refine wp_iload rfl rfl ?_
        refine wp_iaload rfl (kf_68 X.1) ⟨g7.1, g7.2⟩ ?_
        refine wp_goto (tn := 18) rfl rfl ?_
        refine wp_iret rfl rfl ?_
        show Wp X _ 208 17 [vr 53, vr 62, vi x2] [vi (h 68 x2)] _ _
        refine wp_aload rfl rfl ?_
        refine wp_getI (j := 8) rfl (congrArg Prod.fst (kf_53 X.1)) rfl ?_
        refine wp_icge (tn := 38) rfl rfl (fun c9 => ?_) (fun c9 => ?_)
        · replace H := H.1 c9
          refine wp_iconst rfl ?_
          refine wp_goto (tn := 43) rfl rfl ?_
          exact wp_zret rfl rfl (by decide) H
        · replace H := H.2 c9
          refine wp_aload rfl rfl ?_
          refine wp_getR (r := 56) rfl (congrArg Prod.fst (kf_53 X.1)) rfl ?_
          refine wp_aload rfl rfl ?_
          refine wp_iload rfl rfl ?_
          exact wp_call (k := 246) (ρ2 := 2) (L2 := [vr 57, vr 62, vi x2, vu, vu, vu, vu, vu, vu]) rfl rfl rfl (Nat.le_of_ble_eq_true rfl) (Nat.le_of_ble_eq_true rfl) (Nat.le_of_ble_eq_true rfl) (rcv_V rfl (congrArg Prod.fst (kf_57 X.1))) rfl H
/-- RuleText.isWarnedBy(L$Row;I)Z, from 33 -/
theorem S208_53_62_33 {X : Nat × (Int → Int)} {h : HP} {Q : bQ} (zx0 : aV) (zx1 : aV) (zx2 : aV) (s0 : Int) (H : (((lcp s0 0) = 0 → Q (some (vi 0)) h) ∧ ((lcp s0 0) ≠ 0 → Q (some (vi 1)) h))) : Wp X 3 208 33 [zx0, zx1, zx2] [vl s0] h Q := by
  refine wp_sipush rfl ?_
  refine wp_lcmp rfl ?_
  refine wp_ifeq (tn := 42) rfl rfl (fun c1 => ?_) (fun c1 => ?_)
  · replace H := H.1 c1
    refine wp_iconst rfl ?_
    exact wp_zret rfl rfl (by decide) H
  · replace H := H.2 c1
    refine wp_iconst rfl ?_
    refine wp_goto (tn := 43) rfl rfl ?_
    exact wp_zret rfl rfl (by decide) H
/-- RuleText.ruleBits(L$Row;I)I, from 0 -/
theorem S209_45_37_0 {X : Nat × (Int → Int)} {h : HP} {Q : bQ} (x2 : Int) (H : Wp X 2 246 0 [vr 49, vr 37, vi x2, vu, vu, vu, vu, vu, vu] [] h (fun v h' => Wp X 3 209 9 [vr 45, vr 37, vi x2, vu, vu, vu, vu, vu] (psh v []) h' Q)) : Wp X 3 209 0 [vr 45, vr 37, vi x2, vu, vu, vu, vu, vu] [] h Q := by
  refine wp_aload rfl rfl ?_
  refine wp_getR (r := 48) rfl (congrArg Prod.fst (kf_45 X.1)) rfl ?_
  refine wp_aload rfl rfl ?_
  refine wp_iload rfl rfl ?_
  exact wp_call (k := 246) (ρ2 := 2) (L2 := [vr 49, vr 37, vi x2, vu, vu, vu, vu, vu, vu]) rfl rfl rfl (Nat.le_of_ble_eq_true rfl) (Nat.le_of_ble_eq_true rfl) (Nat.le_of_ble_eq_true rfl) (rcv_V rfl (congrArg Prod.fst (kf_49 X.1))) rfl H
/-- RuleText.ruleBits(L$Row;I)I, from 9 -/
theorem S209_45_37_9 {X : Nat × (Int → Int)} {h : HP} {Q : bQ} (x2 : Int) (s0 : Int) (H : Wp X 3 209 16 [vr 45, vr 37, vi x2, vl s0, vu, vi 0, vi 0, vu] [] h Q) : Wp X 3 209 9 [vr 45, vr 37, vi x2, vu, vu, vu, vu, vu] [vl s0] h Q := by
  refine wp_lstore (L2 := [vr 45, vr 37, vi x2, vl s0, vu, vu, vu, vu]) rfl (Nat.le_of_ble_eq_true rfl) rfl ?_
  refine wp_iconst rfl ?_
  refine wp_istore (L2 := [vr 45, vr 37, vi x2, vl s0, vu, vi 0, vu, vu]) rfl (Nat.le_of_ble_eq_true rfl) rfl ?_
  refine wp_iconst rfl ?_
  refine wp_istore (L2 := [vr 45, vr 37, vi x2, vl s0, vu, vi 0, vi 0, vu]) rfl (Nat.le_of_ble_eq_true rfl) rfl ?_
  exact H
/-- RuleText.ruleBits(L$Row;I)I, from 16 -/
theorem S209_45_37_16 {X : Nat × (Int → Int)} {h : HP} {Q : bQ} (x2 : Int) (x3 : Int) (x5 : Int) (x6 : Int) (zx7 : aV) (H : (((h 45 5) ≤ x6 → Q (some (vi x5)) h) ∧ (x6 < (h 45 5) → ((8 ≤ x6 → Q (some (vi x5)) h) ∧ (x6 < 8 → ((0 ≤ x6 ∧ x6 < 8) ∧ (((h 47 x6) = 97 → ((x2 < 0 → ((0 < (h 48 x6) → Wp X 3 209 16 [vr 45, vr 37, vi x2, vl x3, vu, vi x5, vi (x6 + 1), vi 0] [] h Q) ∧ ((h 48 x6) ≤ 0 → Wp X 3 209 16 [vr 45, vr 37, vi x2, vl x3, vu, vi ((i32 x5 ||| i32 ((i32 1 <<< (i32 x6 &&& 31)).toInt)).toInt), vi (x6 + 1), vi 1] [] h Q))) ∧ (0 ≤ x2 → (((h 37 6) ≤ x2 → ((0 < (h 48 x6) → Wp X 3 209 16 [vr 45, vr 37, vi x2, vl x3, vu, vi x5, vi (x6 + 1), vi 0] [] h Q) ∧ ((h 48 x6) ≤ 0 → Wp X 3 209 16 [vr 45, vr 37, vi x2, vl x3, vu, vi ((i32 x5 ||| i32 ((i32 1 <<< (i32 x6 &&& 31)).toInt)).toInt), vi (x6 + 1), vi 1] [] h Q))) ∧ (x2 < (h 37 6) → ((0 ≤ x2 ∧ x2 < 20) ∧ (((h 43 x2) < (h 48 x6) → Wp X 3 209 16 [vr 45, vr 37, vi x2, vl x3, vu, vi x5, vi (x6 + 1), vi 0] [] h Q) ∧ ((h 48 x6) ≤ (h 43 x2) → Wp X 3 209 16 [vr 45, vr 37, vi x2, vl x3, vu, vi ((i32 x5 ||| i32 ((i32 1 <<< (i32 x6 &&& 31)).toInt)).toInt), vi (x6 + 1), vi 1] [] h Q)))))))) ∧ ((h 47 x6) ≠ 97 → (((h 47 x6) = 114 → ((x2 < 0 → ((0 < (h 48 x6) → Wp X 3 209 16 [vr 45, vr 37, vi x2, vl x3, vu, vi x5, vi (x6 + 1), vi 0] [] h Q) ∧ ((h 48 x6) ≤ 0 → Wp X 3 209 16 [vr 45, vr 37, vi x2, vl x3, vu, vi ((i32 x5 ||| i32 ((i32 1 <<< (i32 x6 &&& 31)).toInt)).toInt), vi (x6 + 1), vi 1] [] h Q))) ∧ (0 ≤ x2 → (((h 37 6) ≤ x2 → ((0 < (h 48 x6) → Wp X 3 209 16 [vr 45, vr 37, vi x2, vl x3, vu, vi x5, vi (x6 + 1), vi 0] [] h Q) ∧ ((h 48 x6) ≤ 0 → Wp X 3 209 16 [vr 45, vr 37, vi x2, vl x3, vu, vi ((i32 x5 ||| i32 ((i32 1 <<< (i32 x6 &&& 31)).toInt)).toInt), vi (x6 + 1), vi 1] [] h Q))) ∧ (x2 < (h 37 6) → ((0 ≤ x2 ∧ x2 < 20) ∧ (((h 42 x2) < (h 48 x6) → Wp X 3 209 16 [vr 45, vr 37, vi x2, vl x3, vu, vi x5, vi (x6 + 1), vi 0] [] h Q) ∧ ((h 48 x6) ≤ (h 42 x2) → Wp X 3 209 16 [vr 45, vr 37, vi x2, vl x3, vu, vi ((i32 x5 ||| i32 ((i32 1 <<< (i32 x6 &&& 31)).toInt)).toInt), vi (x6 + 1), vi 1] [] h Q)))))))) ∧ ((h 47 x6) ≠ 114 → (((lcp ((i64 (((i64 x3).toUInt64 >>> ((i32 ((8 * x6) + 7)).toInt64.toUInt64 &&& Int64.toUInt64 63)).toInt64.toInt) &&& i64 1).toInt) 0) = 0 → Wp X 3 209 16 [vr 45, vr 37, vi x2, vl x3, vu, vi x5, vi (x6 + 1), vi 0] [] h Q) ∧ ((lcp ((i64 (((i64 x3).toUInt64 >>> ((i32 ((8 * x6) + 7)).toInt64.toUInt64 &&& Int64.toUInt64 63)).toInt64.toInt) &&& i64 1).toInt) 0) ≠ 0 → Wp X 3 209 16 [vr 45, vr 37, vi x2, vl x3, vu, vi ((i32 x5 ||| i32 ((i32 1 <<< (i32 x6 &&& 31)).toInt)).toInt), vi (x6 + 1), vi 1] [] h Q)))))))))))) : Wp X 3 209 16 [vr 45, vr 37, vi x2, vl x3, vu, vi x5, vi x6, zx7] [] h Q := by
  refine wp_iload rfl rfl ?_
  refine wp_aload rfl rfl ?_
  refine wp_getI (j := 5) rfl (congrArg Prod.fst (kf_45 X.1)) rfl ?_
  refine wp_icge (tn := 142) rfl rfl (fun c1 => ?_) (fun c1 => ?_)
  · replace H := H.1 c1
    refine wp_iload rfl rfl ?_
    exact wp_iret rfl rfl H
  · replace H := H.2 c1
    refine wp_iload rfl rfl ?_
    refine wp_iconst rfl ?_
    refine wp_icge (tn := 142) rfl rfl (fun c2 => ?_) (fun c2 => ?_)
    · replace H := H.1 c2
      refine wp_iload rfl rfl ?_
      exact wp_iret rfl rfl H
    · replace H := H.2 c2
      refine wp_aload rfl rfl ?_
      refine wp_getR (r := 46) rfl (congrArg Prod.fst (kf_45 X.1)) rfl ?_
      refine wp_iload rfl rfl ?_
      have g3 := H.1
      replace H := H.2
      refine wp_iaload rfl (kf_47 X.1) g3 ?_
      by_cases c4 : (h 47 x6) = 97
      · replace H := H.1 c4
        refine wp_look (tn := 89) rfl (by rw [c4]; rfl) ?_
        refine wp_aload rfl rfl ?_
        refine wp_iload rfl rfl ?_
        refine wp_call (k := 194) (ρ2 := 1) (L2 := [vr 37, vi x2]) rfl rfl rfl (Nat.le_of_ble_eq_true rfl) (Nat.le_of_ble_eq_true rfl) (Nat.le_of_ble_eq_true rfl) (rcv_V rfl (congrArg Prod.fst (kf_37 X.1))) rfl ?_
        refine wp_aload rfl rfl ?_
        refine wp_iload rfl rfl ?_
        refine wp_call (k := 189) (ρ2 := 0) (L2 := [vr 37, vi x2]) rfl rfl rfl (Nat.le_of_ble_eq_true rfl) (Nat.le_of_ble_eq_true rfl) (Nat.le_of_ble_eq_true rfl) (rcv_V rfl (congrArg Prod.fst (kf_37 X.1))) rfl ?_
        refine wp_iload rfl rfl ?_
        refine wp_iflt (tn := 16) rfl rfl (fun c5 => ?_) (fun c5 => ?_)
        · replace H := H.1 c5
          refine wp_iconst rfl ?_
          refine wp_zret rfl rfl (by decide) ?_
          show Wp X _ 194 5 [vr 37, vi x2] [vi 0] _ _
          refine wp_ifeqT (tn := 17) rfl rfl (by decide) ?_
          refine wp_iconst rfl ?_
          refine wp_iret rfl rfl ?_
          show Wp X _ 209 94 [vr 45, vr 37, vi x2, vl x3, vu, vi x5, vi x6, zx7] [vi 0] _ _
          refine wp_aload rfl rfl ?_
          refine wp_getR (r := 47) rfl (congrArg Prod.fst (kf_45 X.1)) rfl ?_
          refine wp_iload rfl rfl ?_
          refine wp_iaload rfl (kf_48 X.1) ⟨g3.1, g3.2⟩ ?_
          refine wp_iclt (tn := 108) rfl rfl (fun c6 => ?_) (fun c6 => ?_)
          · replace H := H.1 c6
            refine wp_iconst rfl ?_
            refine wp_istore (L2 := [vr 45, vr 37, vi x2, vl x3, vu, vi x5, vi x6, vi 0]) rfl (Nat.le_of_ble_eq_true rfl) rfl ?_
            refine wp_goto (tn := 122) rfl rfl ?_
            refine wp_iload rfl rfl ?_
            refine wp_ifeqT (tn := 136) rfl rfl (by decide) ?_
            refine wp_iincR (L2 := [vr 45, vr 37, vi x2, vl x3, vu, vi x5, vi (x6 + 1), vi 0]) rfl rfl (by clear H; unfold R32; omega) rfl ?_
            refine wp_goto (tn := 16) rfl rfl ?_
            exact H
          · replace H := H.2 c6
            refine wp_iconst rfl ?_
            refine wp_goto (tn := 109) rfl rfl ?_
            refine wp_istore (L2 := [vr 45, vr 37, vi x2, vl x3, vu, vi x5, vi x6, vi 1]) rfl (Nat.le_of_ble_eq_true rfl) rfl ?_
            refine wp_goto (tn := 122) rfl rfl ?_
            refine wp_iload rfl rfl ?_
            refine wp_ifeqF (tn := 136) rfl rfl (by decide) ?_
            refine wp_iload rfl rfl ?_
            refine wp_iconst rfl ?_
            refine wp_iload rfl rfl ?_
            refine wp_ishl rfl ?_
            refine wp_ior rfl ?_
            refine wp_istore (L2 := [vr 45, vr 37, vi x2, vl x3, vu, vi ((i32 x5 ||| i32 ((i32 1 <<< (i32 x6 &&& 31)).toInt)).toInt), vi x6, vi 1]) rfl (Nat.le_of_ble_eq_true rfl) rfl ?_
            refine wp_iincR (L2 := [vr 45, vr 37, vi x2, vl x3, vu, vi ((i32 x5 ||| i32 ((i32 1 <<< (i32 x6 &&& 31)).toInt)).toInt), vi (x6 + 1), vi 1]) rfl rfl (by clear H; unfold R32; omega) rfl ?_
            refine wp_goto (tn := 16) rfl rfl ?_
            exact H
        · replace H := H.2 c5
          refine wp_iload rfl rfl ?_
          refine wp_aload rfl rfl ?_
          refine wp_getI (j := 6) rfl (congrArg Prod.fst (kf_37 X.1)) rfl ?_
          refine wp_icge (tn := 16) rfl rfl (fun c7 => ?_) (fun c7 => ?_)
          · replace H := H.1 c7
            refine wp_iconst rfl ?_
            refine wp_zret rfl rfl (by decide) ?_
            show Wp X _ 194 5 [vr 37, vi x2] [vi 0] _ _
            refine wp_ifeqT (tn := 17) rfl rfl (by decide) ?_
            refine wp_iconst rfl ?_
            refine wp_iret rfl rfl ?_
            show Wp X _ 209 94 [vr 45, vr 37, vi x2, vl x3, vu, vi x5, vi x6, zx7] [vi 0] _ _
            refine wp_aload rfl rfl ?_
            refine wp_getR (r := 47) rfl (congrArg Prod.fst (kf_45 X.1)) rfl ?_
            refine wp_iload rfl rfl ?_
            refine wp_iaload rfl (kf_48 X.1) ⟨g3.1, g3.2⟩ ?_
            refine wp_iclt (tn := 108) rfl rfl (fun c8 => ?_) (fun c8 => ?_)
            · replace H := H.1 c8
              refine wp_iconst rfl ?_
              refine wp_istore (L2 := [vr 45, vr 37, vi x2, vl x3, vu, vi x5, vi x6, vi 0]) rfl (Nat.le_of_ble_eq_true rfl) rfl ?_
              refine wp_goto (tn := 122) rfl rfl ?_
              refine wp_iload rfl rfl ?_
              refine wp_ifeqT (tn := 136) rfl rfl (by decide) ?_
              refine wp_iincR (L2 := [vr 45, vr 37, vi x2, vl x3, vu, vi x5, vi (x6 + 1), vi 0]) rfl rfl (by clear H; unfold R32; omega) rfl ?_
              refine wp_goto (tn := 16) rfl rfl ?_
              exact H
            · replace H := H.2 c8
              refine wp_iconst rfl ?_
              refine wp_goto (tn := 109) rfl rfl ?_
              refine wp_istore (L2 := [vr 45, vr 37, vi x2, vl x3, vu, vi x5, vi x6, vi 1]) rfl (Nat.le_of_ble_eq_true rfl) rfl ?_
              refine wp_goto (tn := 122) rfl rfl ?_
              refine wp_iload rfl rfl ?_
              refine wp_ifeqF (tn := 136) rfl rfl (by decide) ?_
              refine wp_iload rfl rfl ?_
              refine wp_iconst rfl ?_
              refine wp_iload rfl rfl ?_
              refine wp_ishl rfl ?_
              refine wp_ior rfl ?_
              refine wp_istore (L2 := [vr 45, vr 37, vi x2, vl x3, vu, vi ((i32 x5 ||| i32 ((i32 1 <<< (i32 x6 &&& 31)).toInt)).toInt), vi x6, vi 1]) rfl (Nat.le_of_ble_eq_true rfl) rfl ?_
              refine wp_iincR (L2 := [vr 45, vr 37, vi x2, vl x3, vu, vi ((i32 x5 ||| i32 ((i32 1 <<< (i32 x6 &&& 31)).toInt)).toInt), vi (x6 + 1), vi 1]) rfl rfl (by clear H; unfold R32; omega) rfl ?_
              refine wp_goto (tn := 16) rfl rfl ?_
              exact H
          · replace H := H.2 c7
            refine wp_iconst rfl ?_
            refine wp_goto (tn := 17) rfl rfl ?_
            refine wp_zret rfl rfl (by decide) ?_
            show Wp X _ 194 5 [vr 37, vi x2] [vi 1] _ _
            refine wp_ifeqF (tn := 17) rfl rfl (by decide) ?_
            refine wp_aload rfl rfl ?_
            refine wp_getR (r := 42) rfl (congrArg Prod.fst (kf_37 X.1)) rfl ?_
            refine wp_iload rfl rfl ?_
            have g9 := H.1
            replace H := H.2
            refine wp_iaload rfl (kf_43 X.1) g9 ?_
            refine wp_goto (tn := 18) rfl rfl ?_
            refine wp_iret rfl rfl ?_
            show Wp X _ 209 94 [vr 45, vr 37, vi x2, vl x3, vu, vi x5, vi x6, zx7] [vi (h 43 x2)] _ _
            refine wp_aload rfl rfl ?_
            refine wp_getR (r := 47) rfl (congrArg Prod.fst (kf_45 X.1)) rfl ?_
            refine wp_iload rfl rfl ?_
            refine wp_iaload rfl (kf_48 X.1) ⟨g3.1, g3.2⟩ ?_
            refine wp_iclt (tn := 108) rfl rfl (fun c10 => ?_) (fun c10 => ?_)
            · replace H := H.1 c10
              refine wp_iconst rfl ?_
              refine wp_istore (L2 := [vr 45, vr 37, vi x2, vl x3, vu, vi x5, vi x6, vi 0]) rfl (Nat.le_of_ble_eq_true rfl) rfl ?_
              refine wp_goto (tn := 122) rfl rfl ?_
              refine wp_iload rfl rfl ?_
              refine wp_ifeqT (tn := 136) rfl rfl (by decide) ?_
              refine wp_iincR (L2 := [vr 45, vr 37, vi x2, vl x3, vu, vi x5, vi (x6 + 1), vi 0]) rfl rfl (by clear H; unfold R32; omega) rfl ?_
              refine wp_goto (tn := 16) rfl rfl ?_
              exact H
            · replace H := H.2 c10
              refine wp_iconst rfl ?_
              refine wp_goto (tn := 109) rfl rfl ?_
              refine wp_istore (L2 := [vr 45, vr 37, vi x2, vl x3, vu, vi x5, vi x6, vi 1]) rfl (Nat.le_of_ble_eq_true rfl) rfl ?_
              refine wp_goto (tn := 122) rfl rfl ?_
              refine wp_iload rfl rfl ?_
              refine wp_ifeqF (tn := 136) rfl rfl (by decide) ?_
              refine wp_iload rfl rfl ?_
              refine wp_iconst rfl ?_
              refine wp_iload rfl rfl ?_
              refine wp_ishl rfl ?_
              refine wp_ior rfl ?_
              refine wp_istore (L2 := [vr 45, vr 37, vi x2, vl x3, vu, vi ((i32 x5 ||| i32 ((i32 1 <<< (i32 x6 &&& 31)).toInt)).toInt), vi x6, vi 1]) rfl (Nat.le_of_ble_eq_true rfl) rfl ?_
              refine wp_iincR (L2 := [vr 45, vr 37, vi x2, vl x3, vu, vi ((i32 x5 ||| i32 ((i32 1 <<< (i32 x6 &&& 31)).toInt)).toInt), vi (x6 + 1), vi 1]) rfl rfl (by clear H; unfold R32; omega) rfl ?_
              refine wp_goto (tn := 16) rfl rfl ?_
              exact H
      replace H := H.2 c4
      by_cases c11 : (h 47 x6) = 114
      · replace H := H.1 c11
        refine wp_look (tn := 64) rfl (by rw [c11]; rfl) ?_
        refine wp_aload rfl rfl ?_
        refine wp_iload rfl rfl ?_
        refine wp_call (k := 193) (ρ2 := 1) (L2 := [vr 37, vi x2]) rfl rfl rfl (Nat.le_of_ble_eq_true rfl) (Nat.le_of_ble_eq_true rfl) (Nat.le_of_ble_eq_true rfl) (rcv_V rfl (congrArg Prod.fst (kf_37 X.1))) rfl ?_
        refine wp_aload rfl rfl ?_
        refine wp_iload rfl rfl ?_
        refine wp_call (k := 189) (ρ2 := 0) (L2 := [vr 37, vi x2]) rfl rfl rfl (Nat.le_of_ble_eq_true rfl) (Nat.le_of_ble_eq_true rfl) (Nat.le_of_ble_eq_true rfl) (rcv_V rfl (congrArg Prod.fst (kf_37 X.1))) rfl ?_
        refine wp_iload rfl rfl ?_
        refine wp_iflt (tn := 16) rfl rfl (fun c12 => ?_) (fun c12 => ?_)
        · replace H := H.1 c12
          refine wp_iconst rfl ?_
          refine wp_zret rfl rfl (by decide) ?_
          show Wp X _ 193 5 [vr 37, vi x2] [vi 0] _ _
          refine wp_ifeqT (tn := 17) rfl rfl (by decide) ?_
          refine wp_iconst rfl ?_
          refine wp_iret rfl rfl ?_
          show Wp X _ 209 69 [vr 45, vr 37, vi x2, vl x3, vu, vi x5, vi x6, zx7] [vi 0] _ _
          refine wp_aload rfl rfl ?_
          refine wp_getR (r := 47) rfl (congrArg Prod.fst (kf_45 X.1)) rfl ?_
          refine wp_iload rfl rfl ?_
          refine wp_iaload rfl (kf_48 X.1) ⟨g3.1, g3.2⟩ ?_
          refine wp_iclt (tn := 83) rfl rfl (fun c13 => ?_) (fun c13 => ?_)
          · replace H := H.1 c13
            refine wp_iconst rfl ?_
            refine wp_istore (L2 := [vr 45, vr 37, vi x2, vl x3, vu, vi x5, vi x6, vi 0]) rfl (Nat.le_of_ble_eq_true rfl) rfl ?_
            refine wp_goto (tn := 122) rfl rfl ?_
            refine wp_iload rfl rfl ?_
            refine wp_ifeqT (tn := 136) rfl rfl (by decide) ?_
            refine wp_iincR (L2 := [vr 45, vr 37, vi x2, vl x3, vu, vi x5, vi (x6 + 1), vi 0]) rfl rfl (by clear H; unfold R32; omega) rfl ?_
            refine wp_goto (tn := 16) rfl rfl ?_
            exact H
          · replace H := H.2 c13
            refine wp_iconst rfl ?_
            refine wp_goto (tn := 84) rfl rfl ?_
            refine wp_istore (L2 := [vr 45, vr 37, vi x2, vl x3, vu, vi x5, vi x6, vi 1]) rfl (Nat.le_of_ble_eq_true rfl) rfl ?_
            refine wp_goto (tn := 122) rfl rfl ?_
            refine wp_iload rfl rfl ?_
            refine wp_ifeqF (tn := 136) rfl rfl (by decide) ?_
            refine wp_iload rfl rfl ?_
            refine wp_iconst rfl ?_
            refine wp_iload rfl rfl ?_
            refine wp_ishl rfl ?_
            refine wp_ior rfl ?_
            refine wp_istore (L2 := [vr 45, vr 37, vi x2, vl x3, vu, vi ((i32 x5 ||| i32 ((i32 1 <<< (i32 x6 &&& 31)).toInt)).toInt), vi x6, vi 1]) rfl (Nat.le_of_ble_eq_true rfl) rfl ?_
            refine wp_iincR (L2 := [vr 45, vr 37, vi x2, vl x3, vu, vi ((i32 x5 ||| i32 ((i32 1 <<< (i32 x6 &&& 31)).toInt)).toInt), vi (x6 + 1), vi 1]) rfl rfl (by clear H; unfold R32; omega) rfl ?_
            refine wp_goto (tn := 16) rfl rfl ?_
            exact H
        · replace H := H.2 c12
          refine wp_iload rfl rfl ?_
          refine wp_aload rfl rfl ?_
          refine wp_getI (j := 6) rfl (congrArg Prod.fst (kf_37 X.1)) rfl ?_
          refine wp_icge (tn := 16) rfl rfl (fun c14 => ?_) (fun c14 => ?_)
          · replace H := H.1 c14
            refine wp_iconst rfl ?_
            refine wp_zret rfl rfl (by decide) ?_
            show Wp X _ 193 5 [vr 37, vi x2] [vi 0] _ _
            refine wp_ifeqT (tn := 17) rfl rfl (by decide) ?_
            refine wp_iconst rfl ?_
            refine wp_iret rfl rfl ?_
            show Wp X _ 209 69 [vr 45, vr 37, vi x2, vl x3, vu, vi x5, vi x6, zx7] [vi 0] _ _
            refine wp_aload rfl rfl ?_
            refine wp_getR (r := 47) rfl (congrArg Prod.fst (kf_45 X.1)) rfl ?_
            refine wp_iload rfl rfl ?_
            refine wp_iaload rfl (kf_48 X.1) ⟨g3.1, g3.2⟩ ?_
            refine wp_iclt (tn := 83) rfl rfl (fun c15 => ?_) (fun c15 => ?_)
            · replace H := H.1 c15
              refine wp_iconst rfl ?_
              refine wp_istore (L2 := [vr 45, vr 37, vi x2, vl x3, vu, vi x5, vi x6, vi 0]) rfl (Nat.le_of_ble_eq_true rfl) rfl ?_
              refine wp_goto (tn := 122) rfl rfl ?_
              refine wp_iload rfl rfl ?_
              refine wp_ifeqT (tn := 136) rfl rfl (by decide) ?_
              refine wp_iincR (L2 := [vr 45, vr 37, vi x2, vl x3, vu, vi x5, vi (x6 + 1), vi 0]) rfl rfl (by clear H; unfold R32; omega) rfl ?_
              refine wp_goto (tn := 16) rfl rfl ?_
              exact H
            · replace H := H.2 c15
              refine wp_iconst rfl ?_
              refine wp_goto (tn := 84) rfl rfl ?_
              refine wp_istore (L2 := [vr 45, vr 37, vi x2, vl x3, vu, vi x5, vi x6, vi 1]) rfl (Nat.le_of_ble_eq_true rfl) rfl ?_
              refine wp_goto (tn := 122) rfl rfl ?_
              refine wp_iload rfl rfl ?_
              refine wp_ifeqF (tn := 136) rfl rfl (by decide) ?_
              refine wp_iload rfl rfl ?_
              refine wp_iconst rfl ?_
              refine wp_iload rfl rfl ?_
              refine wp_ishl rfl ?_
              refine wp_ior rfl ?_
              refine wp_istore (L2 := [vr 45, vr 37, vi x2, vl x3, vu, vi ((i32 x5 ||| i32 ((i32 1 <<< (i32 x6 &&& 31)).toInt)).toInt), vi x6, vi 1]) rfl (Nat.le_of_ble_eq_true rfl) rfl ?_
              refine wp_iincR (L2 := [vr 45, vr 37, vi x2, vl x3, vu, vi ((i32 x5 ||| i32 ((i32 1 <<< (i32 x6 &&& 31)).toInt)).toInt), vi (x6 + 1), vi 1]) rfl rfl (by clear H; unfold R32; omega) rfl ?_
              refine wp_goto (tn := 16) rfl rfl ?_
              exact H
          · replace H := H.2 c14
            refine wp_iconst rfl ?_
            refine wp_goto (tn := 17) rfl rfl ?_
            refine wp_zret rfl rfl (by decide) ?_
            show Wp X _ 193 5 [vr 37, vi x2] [vi 1] _ _
            refine wp_ifeqF (tn := 17) rfl rfl (by decide) ?_
            refine wp_aload rfl rfl ?_
            refine wp_getR (r := 41) rfl (congrArg Prod.fst (kf_37 X.1)) rfl ?_
            refine wp_iload rfl rfl ?_
            have g16 := H.1
            replace H := H.2
            refine wp_iaload rfl (kf_42 X.1) g16 ?_
            refine wp_goto (tn := 18) rfl rfl ?_
            refine wp_iret rfl rfl ?_
            show Wp X _ 209 69 [vr 45, vr 37, vi x2, vl x3, vu, vi x5, vi x6, zx7] [vi (h 42 x2)] _ _
            refine wp_aload rfl rfl ?_
            refine wp_getR (r := 47) rfl (congrArg Prod.fst (kf_45 X.1)) rfl ?_
            refine wp_iload rfl rfl ?_
            refine wp_iaload rfl (kf_48 X.1) ⟨g3.1, g3.2⟩ ?_
            refine wp_iclt (tn := 83) rfl rfl (fun c17 => ?_) (fun c17 => ?_)
            · replace H := H.1 c17
              refine wp_iconst rfl ?_
              refine wp_istore (L2 := [vr 45, vr 37, vi x2, vl x3, vu, vi x5, vi x6, vi 0]) rfl (Nat.le_of_ble_eq_true rfl) rfl ?_
              refine wp_goto (tn := 122) rfl rfl ?_
              refine wp_iload rfl rfl ?_
              refine wp_ifeqT (tn := 136) rfl rfl (by decide) ?_
              refine wp_iincR (L2 := [vr 45, vr 37, vi x2, vl x3, vu, vi x5, vi (x6 + 1), vi 0]) rfl rfl (by clear H; unfold R32; omega) rfl ?_
              refine wp_goto (tn := 16) rfl rfl ?_
              exact H
            · replace H := H.2 c17
              refine wp_iconst rfl ?_
              refine wp_goto (tn := 84) rfl rfl ?_
              refine wp_istore (L2 := [vr 45, vr 37, vi x2, vl x3, vu, vi x5, vi x6, vi 1]) rfl (Nat.le_of_ble_eq_true rfl) rfl ?_
              refine wp_goto (tn := 122) rfl rfl ?_
              refine wp_iload rfl rfl ?_
              refine wp_ifeqF (tn := 136) rfl rfl (by decide) ?_
              refine wp_iload rfl rfl ?_
              refine wp_iconst rfl ?_
              refine wp_iload rfl rfl ?_
              refine wp_ishl rfl ?_
              refine wp_ior rfl ?_
              refine wp_istore (L2 := [vr 45, vr 37, vi x2, vl x3, vu, vi ((i32 x5 ||| i32 ((i32 1 <<< (i32 x6 &&& 31)).toInt)).toInt), vi x6, vi 1]) rfl (Nat.le_of_ble_eq_true rfl) rfl ?_
              refine wp_iincR (L2 := [vr 45, vr 37, vi x2, vl x3, vu, vi ((i32 x5 ||| i32 ((i32 1 <<< (i32 x6 &&& 31)).toInt)).toInt), vi (x6 + 1), vi 1]) rfl rfl (by clear H; unfold R32; omega) rfl ?_
              refine wp_goto (tn := 16) rfl rfl ?_
              exact H
      replace H := H.2 c11
      refine wp_look (tn := 114) rfl (by show (lsw [(97, 89), (114, 64)] 114 (h 47 x6)).toNat = 114; simp only [lsw]; rw [if_neg c4, if_neg c11]; rfl) ?_
      refine wp_iload rfl rfl ?_
      refine wp_lload rfl rfl ?_
      refine wp_call (k := 243) (ρ2 := 0) (L2 := [vi x6, vl x3, vu]) rfl rfl rfl (Nat.le_of_ble_eq_true rfl) (Nat.le_of_ble_eq_true rfl) (Nat.le_of_ble_eq_true rfl) (rcv_S rfl) rfl ?_
      refine wp_lload rfl rfl ?_
      refine wp_iconst rfl ?_
      refine wp_iload rfl rfl ?_
      refine wp_imul rfl ?_
      refine Wp.topI (y := (8 * x6)) (w32_I (by clear H; unfold R32; omega)) ?_
      refine wp_iconst rfl ?_
      refine wp_iadd rfl ?_
      refine Wp.topI (y := ((8 * x6) + 7)) (w32_I (by clear H; unfold R32; omega)) ?_
      refine wp_lushr rfl ?_
      refine wp_sipush rfl ?_
      refine wp_land rfl ?_
      refine wp_sipush rfl ?_
      refine wp_lcmp rfl ?_
      refine wp_ifeq (tn := 20) rfl rfl (fun c19 => ?_) (fun c19 => ?_)
      · replace H := H.1 c19
        refine wp_iconst rfl ?_
        refine wp_zret rfl rfl (by decide) ?_
        show Wp X _ 209 120 [vr 45, vr 37, vi x2, vl x3, vu, vi x5, vi x6, zx7] [vi 0] _ _
        refine wp_istore (L2 := [vr 45, vr 37, vi x2, vl x3, vu, vi x5, vi x6, vi 0]) rfl (Nat.le_of_ble_eq_true rfl) rfl ?_
        refine wp_iload rfl rfl ?_
        refine wp_ifeqT (tn := 136) rfl rfl (by decide) ?_
        refine wp_iincR (L2 := [vr 45, vr 37, vi x2, vl x3, vu, vi x5, vi (x6 + 1), vi 0]) rfl rfl (by clear H; unfold R32; omega) rfl ?_
        refine wp_goto (tn := 16) rfl rfl ?_
        exact H
      · replace H := H.2 c19
        refine wp_iconst rfl ?_
        refine wp_goto (tn := 21) rfl rfl ?_
        refine wp_zret rfl rfl (by decide) ?_
        show Wp X _ 209 120 [vr 45, vr 37, vi x2, vl x3, vu, vi x5, vi x6, zx7] [vi 1] _ _
        refine wp_istore (L2 := [vr 45, vr 37, vi x2, vl x3, vu, vi x5, vi x6, vi 1]) rfl (Nat.le_of_ble_eq_true rfl) rfl ?_
        refine wp_iload rfl rfl ?_
        refine wp_ifeqF (tn := 136) rfl rfl (by decide) ?_
        refine wp_iload rfl rfl ?_
        refine wp_iconst rfl ?_
        refine wp_iload rfl rfl ?_
        refine wp_ishl rfl ?_
        refine wp_ior rfl ?_
        refine wp_istore (L2 := [vr 45, vr 37, vi x2, vl x3, vu, vi ((i32 x5 ||| i32 ((i32 1 <<< (i32 x6 &&& 31)).toInt)).toInt), vi x6, vi 1]) rfl (Nat.le_of_ble_eq_true rfl) rfl ?_
        refine wp_iincR (L2 := [vr 45, vr 37, vi x2, vl x3, vu, vi ((i32 x5 ||| i32 ((i32 1 <<< (i32 x6 &&& 31)).toInt)).toInt), vi (x6 + 1), vi 1]) rfl rfl (by clear H; unfold R32; omega) rfl ?_
        refine wp_goto (tn := 16) rfl rfl ?_
        exact H
