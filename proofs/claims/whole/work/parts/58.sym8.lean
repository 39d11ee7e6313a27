-- ===== the methods run symbolically, 8 (by program: wip/whole/gen_sym.py) =====
/-- RuleText.ruleBits(L$Row;I)I, from 0 -/
theorem S209_53_37_0 {X : Nat × (Int → Int)} {h : HP} {Q : bQ} (x2 : Int) (H : Wp X 2 246 0 [vr 57, vr 37, vi x2, vu, vu, vu, vu, vu, vu] [] h (fun v h' => Wp X 3 209 9 [vr 53, vr 37, vi x2, vu, vu, vu, vu, vu] (psh v []) h' Q)) : Wp X 3 209 0 [vr 53, vr 37, vi x2, vu, vu, vu, vu, vu] [] h Q := by
  refine wp_aload rfl rfl ?_
  refine wp_getR (r := 56) rfl (congrArg Prod.fst (kf_53 X.1)) rfl ?_
  refine wp_aload rfl rfl ?_
  refine wp_iload rfl rfl ?_
  exact wp_call (k := 246) (ρ2 := 2) (L2 := [vr 57, vr 37, vi x2, vu, vu, vu, vu, vu, vu]) rfl rfl rfl (Nat.le_of_ble_eq_true rfl) (Nat.le_of_ble_eq_true rfl) (Nat.le_of_ble_eq_true rfl) (rcv_V rfl (congrArg Prod.fst (kf_57 X.1))) rfl H
/-- RuleText.ruleBits(L$Row;I)I, from 9 -/
theorem S209_53_37_9 {X : Nat × (Int → Int)} {h : HP} {Q : bQ} (x2 : Int) (s0 : Int) (H : Wp X 3 209 16 [vr 53, vr 37, vi x2, vl s0, vu, vi 0, vi 0, vu] [] h Q) : Wp X 3 209 9 [vr 53, vr 37, vi x2, vu, vu, vu, vu, vu] [vl s0] h Q := by
  refine wp_lstore (L2 := [vr 53, vr 37, vi x2, vl s0, vu, vu, vu, vu]) rfl (Nat.le_of_ble_eq_true rfl) rfl ?_
  refine wp_iconst rfl ?_
  refine wp_istore (L2 := [vr 53, vr 37, vi x2, vl s0, vu, vi 0, vu, vu]) rfl (Nat.le_of_ble_eq_true rfl) rfl ?_
  refine wp_iconst rfl ?_
  refine wp_istore (L2 := [vr 53, vr 37, vi x2, vl s0, vu, vi 0, vi 0, vu]) rfl (Nat.le_of_ble_eq_true rfl) rfl ?_
  exact H
/-- RuleText.ruleBits(L$Row;I)I, from 16 -/
theorem S209_53_37_16 {X : Nat × (Int → Int)} {h : HP} {Q : bQ} (x2 : Int) (x3 : Int) (x5 : Int) (x6 : Int) (zx7 : aV) (H : (((h 53 5) ≤ x6 → Q (some (vi x5)) h) ∧ (x6 < (h 53 5) → ((8 ≤ x6 → Q (some (vi x5)) h) ∧ (x6 < 8 → ((0 ≤ x6 ∧ x6 < 8) ∧ (((h 55 x6) = 97 → ((x2 < 0 → ((0 < (h 56 x6) → Wp X 3 209 16 [vr 53, vr 37, vi x2, vl x3, vu, vi x5, vi (x6 + 1), vi 0] [] h Q) ∧ ((h 56 x6) ≤ 0 → Wp X 3 209 16 [vr 53, vr 37, vi x2, vl x3, vu, vi ((i32 x5 ||| i32 ((i32 1 <<< (i32 x6 &&& 31)).toInt)).toInt), vi (x6 + 1), vi 1] [] h Q))) ∧ (0 ≤ x2 → (((h 37 6) ≤ x2 → ((0 < (h 56 x6) → Wp X 3 209 16 [vr 53, vr 37, vi x2, vl x3, vu, vi x5, vi (x6 + 1), vi 0] [] h Q) ∧ ((h 56 x6) ≤ 0 → Wp X 3 209 16 [vr 53, vr 37, vi x2, vl x3, vu, vi ((i32 x5 ||| i32 ((i32 1 <<< (i32 x6 &&& 31)).toInt)).toInt), vi (x6 + 1), vi 1] [] h Q))) ∧ (x2 < (h 37 6) → ((0 ≤ x2 ∧ x2 < 20) ∧ (((h 43 x2) < (h 56 x6) → Wp X 3 209 16 [vr 53, vr 37, vi x2, vl x3, vu, vi x5, vi (x6 + 1), vi 0] [] h Q) ∧ ((h 56 x6) ≤ (h 43 x2) → Wp X 3 209 16 [vr 53, vr 37, vi x2, vl x3, vu, vi ((i32 x5 ||| i32 ((i32 1 <<< (i32 x6 &&& 31)).toInt)).toInt), vi (x6 + 1), vi 1] [] h Q)))))))) ∧ ((h 55 x6) ≠ 97 → (((h 55 x6) = 114 → ((x2 < 0 → ((0 < (h 56 x6) → Wp X 3 209 16 [vr 53, vr 37, vi x2, vl x3, vu, vi x5, vi (x6 + 1), vi 0] [] h Q) ∧ ((h 56 x6) ≤ 0 → Wp X 3 209 16 [vr 53, vr 37, vi x2, vl x3, vu, vi ((i32 x5 ||| i32 ((i32 1 <<< (i32 x6 &&& 31)).toInt)).toInt), vi (x6 + 1), vi 1] [] h Q))) ∧ (0 ≤ x2 → (((h 37 6) ≤ x2 → ((0 < (h 56 x6) → Wp X 3 209 16 [vr 53, vr 37, vi x2, vl x3, vu, vi x5, vi (x6 + 1), vi 0] [] h Q) ∧ ((h 56 x6) ≤ 0 → Wp X 3 209 16 [vr 53, vr 37, vi x2, vl x3, vu, vi ((i32 x5 ||| i32 ((i32 1 <<< (i32 x6 &&& 31)).toInt)).toInt), vi (x6 + 1), vi 1] [] h Q))) ∧ (x2 < (h 37 6) → ((0 ≤ x2 ∧ x2 < 20) ∧ (((h 42 x2) < (h 56 x6) → Wp X 3 209 16 [vr 53, vr 37, vi x2, vl x3, vu, vi x5, vi (x6 + 1), vi 0] [] h Q) ∧ ((h 56 x6) ≤ (h 42 x2) → Wp X 3 209 16 [vr 53, vr 37, vi x2, vl x3, vu, vi ((i32 x5 ||| i32 ((i32 1 <<< (i32 x6 &&& 31)).toInt)).toInt), vi (x6 + 1), vi 1] [] h Q)))))))) ∧ ((h 55 x6) ≠ 114 → (((lcp ((i64 (((i64 x3).toUInt64 >>> ((i32 ((8 * x6) + 7)).toInt64.toUInt64 &&& Int64.toUInt64 63)).toInt64.toInt) &&& i64 1).toInt) 0) = 0 → Wp X 3 209 16 [vr 53, vr 37, vi x2, vl x3, vu, vi x5, vi (x6 + 1), vi 0] [] h Q) ∧ ((lcp ((i64 (((i64 x3).toUInt64 >>> ((i32 ((8 * x6) + 7)).toInt64.toUInt64 &&& Int64.toUInt64 63)).toInt64.toInt) &&& i64 1).toInt) 0) ≠ 0 → Wp X 3 209 16 [vr 53, vr 37, vi x2, vl x3, vu, vi ((i32 x5 ||| i32 ((i32 1 <<< (i32 x6 &&& 31)).toInt)).toInt), vi (x6 + 1), vi 1] [] h Q)))))))))))) : Wp X 3 209 16 [vr 53, vr 37, vi x2, vl x3, vu, vi x5, vi x6, zx7] [] h Q := by
  refine wp_iload rfl rfl ?_
  refine wp_aload rfl rfl ?_
  refine wp_getI (j := 5) rfl (congrArg Prod.fst (kf_53 X.1)) rfl ?_
  refine wp_icge (tn := 142) rfl rfl (fun c1 => ?_) (fun c1 => ?_)
  · replace H := H.1 c1
    refine wp_iload rfl rfl ?_
    exact wp_iret rfl rfl H
  · replace H := H.2 c1
    refine wp_iload rfl rfl ?_
    refine wp_iconst rfl ?_
    refine wp_icge (tn := 142) rfl rfl (fun c2 => ?_) (fun c2 => ?_)
    · replace H := H.1 c2
      refine wp_iload rfl rfl ?_
      exact wp_iret rfl rfl H
    · replace H := H.2 c2
      refine wp_aload rfl rfl ?_
      refine wp_getR (r := 54) rfl (congrArg Prod.fst (kf_53 X.1)) rfl ?_
      refine wp_iload rfl rfl ?_
      have g3 := H.1
      replace H := H.2
      refine wp_iaload rfl (kf_55 X.1) g3 ?_
      by_cases c4 : (h 55 x6) = 97
      · replace H := H.1 c4
        refine wp_look (tn := 89) rfl (by rw [c4]; rfl) ?_
        refine wp_aload rfl rfl ?_
        refine wp_iload rfl rfl ?_
        refine wp_call (k := 194) (ρ2 := 1) (L2 := [vr 37, vi x2]) rfl rfl rfl (Nat.le_of_ble_eq_true rfl) (Nat.le_of_ble_eq_true rfl) (Nat.le_of_ble_eq_true rfl) (rcv_V rfl (congrArg Prod.fst (kf_37 X.1))) rfl ?_
        refine wp_aload rfl rfl ?_
        refine wp_iload rfl rfl ?_
        refine wp_call (k := 189) (ρ2 := 0) (L2 := [vr 37, vi x2]) rfl rfl rfl (Nat.le_of_ble_eq_true rfl) (Nat.le_of_ble_eq_true rfl) (Nat.le_of_ble_eq_true rfl) (rcv_V rfl (congrArg Prod.fst (kf_37 X.1))) rfl ?_
        refine wp_iload rfl rfl ?_
        refine wp_iflt (tn := 16) rfl rfl (fun c5 => ?_) (fun c5 => ?_)
        · replace H := H.1 c5
          refine wp_iconst rfl ?_
          refine wp_zret rfl rfl (by decide) ?_
          show Wp X _ 194 5 [vr 37, vi x2] [vi 0] _ _
          refine wp_ifeqT (tn := 17) rfl rfl (by decide) ?_
          refine wp_iconst rfl ?_
          refine wp_iret rfl rfl ?_
          show Wp X _ 209 94 [vr 53, vr 37, vi x2, vl x3, vu, vi x5, vi x6, zx7] [vi 0] _ _
          refine wp_aload rfl rfl ?_
          refine wp_getR (r := 55) rfl (congrArg Prod.fst (kf_53 X.1)) rfl ?_
          refine wp_iload rfl rfl ?_
          refine wp_iaload rfl (kf_56 X.1) ⟨g3.1, g3.2⟩ ?_
          refine wp_iclt (tn := 108) rfl rfl (fun c6 => ?_) (fun c6 => ?_)
          · replace H := H.1 c6
            refine wp_iconst rfl ?_
            refine wp_istore (L2 := [vr 53, vr 37, vi x2, vl x3, vu, vi x5, vi x6, vi 0]) rfl (Nat.le_of_ble_eq_true rfl) rfl ?_
            refine wp_goto (tn := 122) rfl rfl ?_
            refine wp_iload rfl rfl ?_
            refine wp_ifeqT (tn := 136) rfl rfl (by decide) ?_
            refine wp_iincR (L2 := [vr 53, vr 37, vi x2, vl x3, vu, vi x5, vi (x6 + 1), vi 0]) rfl rfl (by clear H; unfold R32; omega) rfl ?_
            refine wp_goto (tn := 16) rfl rfl ?_
            exact H
          · replace H := H.2 c6
            refine wp_iconst rfl ?_
            refine wp_goto (tn := 109) rfl rfl ?_
            refine wp_istore (L2 := [vr 53, vr 37, vi x2, vl x3, vu, vi x5, vi x6, vi 1]) rfl (Nat.le_of_ble_eq_true rfl) rfl ?_
            refine wp_goto (tn := 122) rfl rfl ?_
            refine wp_iload rfl rfl ?_
            refine wp_ifeqF (tn := 136) rfl rfl (by decide) ?_
            refine wp_iload rfl rfl ?_
            refine wp_iconst rfl ?_
            refine wp_iload rfl rfl ?_
            refine wp_ishl rfl ?_
            refine wp_ior rfl ?_
            refine wp_istore (L2 := [vr 53, vr 37, vi x2, vl x3, vu, vi ((i32 x5 ||| i32 ((i32 1 <<< (i32 x6 &&& 31)).toInt)).toInt), vi x6, vi 1]) rfl (Nat.le_of_ble_eq_true rfl) rfl ?_
            refine wp_iincR (L2 := [vr 53, vr 37, vi x2, vl x3, vu, vi ((i32 x5 ||| i32 ((i32 1 <<< (i32 x6 &&& 31)).toInt)).toInt), vi (x6 + 1), vi 1]) rfl rfl (by clear H; unfold R32; omega) rfl ?_
            refine wp_goto (tn := 16) rfl rfl ?_
            exact H
        · replace H := H.2 c5
          refine wp_iload rfl rfl ?_
          refine wp_aload rfl rfl ?_
          refine wp_getI (j := 6) rfl (congrArg Prod.fst (kf_37 X.1)) rfl ?_
          refine wp_icge (tn := 16) rfl rfl (fun c7 => ?_) (fun c7 => ?_)
          · replace H := H.1 c7
            refine wp_iconst rfl ?_
            refine wp_zret rfl rfl (by decide) ?_
            show Wp X _ 194 5 [vr 37, vi x2] [vi 0] _ _
            refine wp_ifeqT (tn := 17) rfl rfl (by decide) ?_
            refine wp_iconst rfl ?_
            refine wp_iret rfl rfl ?_
            show Wp X _ 209 94 [vr 53, vr 37, vi x2, vl x3, vu, vi x5, vi x6, zx7] [vi 0] _ _
            refine wp_aload rfl rfl ?_
            refine wp_getR (r := 55) rfl (congrArg Prod.fst (kf_53 X.1)) rfl ?_
            refine wp_iload rfl rfl ?_
            refine wp_iaload rfl (kf_56 X.1) ⟨g3.1, g3.2⟩ ?_
            refine wp_iclt (tn := 108) rfl rfl (fun c8 => ?_) (fun c8 => ?_)
            · replace H := H.1 c8
              refine wp_iconst rfl ?_
              refine wp_istore (L2 := [vr 53, vr 37, vi x2, vl x3, vu, vi x5, vi x6, vi 0]) rfl (Nat.le_of_ble_eq_true rfl) rfl ?_
              refine wp_goto (tn := 122) rfl rfl ?_
              refine wp_iload rfl rfl ?_
              refine wp_ifeqT (tn := 136) rfl rfl (by decide) ?_
              refine wp_iincR (L2 := [vr 53, vr 37, vi x2, vl x3, vu, vi x5, vi (x6 + 1), vi 0]) rfl rfl (by clear H; unfold R32; omega) rfl ?_
              refine wp_goto (tn := 16) rfl rfl ?_
              exact H
            · replace H := H.2 c8
              refine wp_iconst rfl ?_
              refine wp_goto (tn := 109) rfl rfl ?_
              refine wp_istore (L2 := [vr 53, vr 37, vi x2, vl x3, vu, vi x5, vi x6, vi 1]) rfl (Nat.le_of_ble_eq_true rfl) rfl ?_
              refine wp_goto (tn := 122) rfl rfl ?_
              refine wp_iload rfl rfl ?_
              refine wp_ifeqF (tn := 136) rfl rfl (by decide) ?_
              refine wp_iload rfl rfl ?_
              refine wp_iconst rfl ?_
              refine wp_iload rfl rfl ?_
              refine wp_ishl rfl ?_
              refine wp_ior rfl ?_
              refine wp_istore (L2 := [vr 53, vr 37, vi x2, vl x3, vu, vi ((i32 x5 ||| i32 ((i32 1 <<< (i32 x6 &&& 31)).toInt)).toInt), vi x6, vi 1]) rfl (Nat.le_of_ble_eq_true rfl) rfl ?_
              refine wp_iincR (L2 := [vr 53, vr 37, vi x2, vl x3, vu, vi ((i32 x5 ||| i32 ((i32 1 <<< (i32 x6 &&& 31)).toInt)).toInt), vi (x6 + 1), vi 1]) rfl rfl (by clear H; unfold R32; omega) rfl ?_
              refine wp_goto (tn := 16) rfl rfl ?_
              exact H
          · replace H := H.2 c7
            refine wp_iconst rfl ?_
            refine wp_goto (tn := 17) rfl rfl ?_
            refine wp_zret rfl rfl (by decide) ?_
            show Wp X _ 194 5 [vr 37, vi x2] [vi 1] _ _
            refine wp_ifeqF (tn := 17) rfl rfl (by decide) ?_
            refine wp_aload rfl rfl ?_
            refine wp_getR (r := 42) rfl (congrArg Prod.fst (kf_37 X.1)) rfl ?_
            refine wp_iload rfl rfl ?_
            have g9 := H.1
            replace H := H.2
            refine wp_iaload rfl (kf_43 X.1) g9 ?_
            refine wp_goto (tn := 18) rfl rfl ?_
            refine wp_iret rfl rfl ?_
            show Wp X _ 209 94 [vr 53, vr 37, vi x2, vl x3, vu, vi x5, vi x6, zx7] [vi (h 43 x2)] _ _
            refine wp_aload rfl rfl ?_
            refine wp_getR (r := 55) rfl (congrArg Prod.fst (kf_53 X.1)) rfl ?_
            refine wp_iload rfl rfl ?_
            refine wp_iaload rfl (kf_56 X.1) ⟨g3.1, g3.2⟩ ?_
            refine wp_iclt (tn := 108) rfl rfl (fun c10 => ?_) (fun c10 => ?_)
            · replace H := H.1 c10
              refine wp_iconst rfl ?_
              refine wp_istore (L2 := [vr 53, vr 37, vi x2, vl x3, vu, vi x5, vi x6, vi 0]) rfl (Nat.le_of_ble_eq_true rfl) rfl ?_
              refine wp_goto (tn := 122) rfl rfl ?_
              refine wp_iload rfl rfl ?_
              refine wp_ifeqT (tn := 136) rfl rfl (by decide) ?_
              refine wp_iincR (L2 := [vr 53, vr 37, vi x2, vl x3, vu, vi x5, vi (x6 + 1), vi 0]) rfl rfl (by clear H; unfold R32; omega) rfl ?_
              refine wp_goto (tn := 16) rfl rfl ?_
              exact H
            · replace H := H.2 c10
              refine wp_iconst rfl ?_
              refine wp_goto (tn := 109) rfl rfl ?_
              refine wp_istore (L2 := [vr 53, vr 37, vi x2, vl x3, vu, vi x5, vi x6, vi 1]) rfl (Nat.le_of_ble_eq_true rfl) rfl ?_
              refine wp_goto (tn := 122) rfl rfl ?_
              refine wp_iload rfl rfl ?_
              refine wp_ifeqF (tn := 136) rfl rfl (by decide) ?_
              refine wp_iload rfl rfl ?_
              refine wp_iconst rfl ?_
              refine wp_iload rfl rfl ?_
              refine wp_ishl rfl ?_
              refine wp_ior rfl ?_
              refine wp_istore (L2 := [vr 53, vr 37, vi x2, vl x3, vu, vi ((i32 x5 ||| i32 ((i32 1 <<< (i32 x6 &&& 31)).toInt)).toInt), vi x6, vi 1]) rfl (Nat.le_of_ble_eq_true rfl) rfl ?_
              refine wp_iincR (L2 := [vr 53, vr 37, vi x2, vl x3, vu, vi ((i32 x5 ||| i32 ((i32 1 <<< (i32 x6 &&& 31)).toInt)).toInt), vi (x6 + 1), vi 1]) rfl rfl (by clear H; unfold R32; omega) rfl ?_
              refine wp_goto (tn := 16) rfl rfl ?_
              exact H
      replace H := H.2 c4
      by_cases c11 : (h 55 x6) = 114
      · replace H := H.1 c11
        refine wp_look (tn := 64) rfl (by rw [c11]; rfl) ?_
        refine wp_aload rfl rfl ?_
        refine wp_iload rfl rfl ?_
        refine wp_call (k := 193) (ρ2 := 1) (L2 := [vr 37, vi x2]) rfl rfl rfl (Nat.le_of_ble_eq_true rfl) (Nat.le_of_ble_eq_true rfl) (Nat.le_of_ble_eq_true rfl) (rcv_V rfl (congrArg Prod.fst (kf_37 X.1))) rfl ?_
        refine wp_aload rfl rfl ?_
        refine wp_iload rfl rfl ?_
        refine wp_call (k := 189) (ρ2 := 0) (L2 := [vr 37, vi x2]) rfl rfl rfl (Nat.le_of_ble_eq_true rfl) (Nat.le_of_ble_eq_true rfl) (Nat.le_of_ble_eq_true rfl) (rcv_V rfl (congrArg Prod.fst (kf_37 X.1))) rfl ?_
        refine wp_iload rfl rfl ?_
        refine wp_iflt (tn := 16) rfl rfl (fun c12 => ?_) (fun c12 => ?_)
        · replace H := H.1 c12
          refine wp_iconst rfl ?_
          refine wp_zret rfl rfl (by decide) ?_
          show Wp X _ 193 5 [vr 37, vi x2] [vi 0] _ _
          refine wp_ifeqT (tn := 17) rfl rfl (by decide) ?_
          refine wp_iconst rfl ?_
          refine wp_iret rfl rfl ?_
          show Wp X _ 209 69 [vr 53, vr 37, vi x2, vl x3, vu, vi x5, vi x6, zx7] [vi 0] _ _
          refine wp_aload rfl rfl ?_
          refine wp_getR (r := 55) rfl (congrArg Prod.fst (kf_53 X.1)) rfl ?_
          refine wp_iload rfl rfl ?_
          refine wp_iaload rfl (kf_56 X.1) ⟨g3.1, g3.2⟩ ?_
          refine wp_iclt (tn := 83) rfl rfl (fun c13 => ?_) (fun c13 => ?_)
          · replace H := H.1 c13
            refine wp_iconst rfl ?_
            refine wp_istore (L2 := [vr 53, vr 37, vi x2, vl x3, vu, vi x5, vi x6, vi 0]) rfl (Nat.le_of_ble_eq_true rfl) rfl ?_
            refine wp_goto (tn := 122) rfl rfl ?_
            refine wp_iload rfl rfl ?_
            refine wp_ifeqT (tn := 136) rfl rfl (by decide) ?_
            refine wp_iincR (L2 := [vr 53, vr 37, vi x2, vl x3, vu, vi x5, vi (x6 + 1), vi 0]) rfl rfl (by clear H; unfold R32; omega) rfl ?_
            refine wp_goto (tn := 16) rfl rfl ?_
            exact H
          · replace H := H.2 c13
            refine wp_iconst rfl ?_
            refine wp_goto (tn := 84) rfl rfl ?_
            refine wp_istore (L2 := [vr 53, vr 37, vi x2, vl x3, vu, vi x5, vi x6, vi 1]) rfl (Nat.le_of_ble_eq_true rfl) rfl ?_
            refine wp_goto (tn := 122) rfl rfl ?_
            refine wp_iload rfl rfl ?_
            refine wp_ifeqF (tn := 136) rfl rfl (by decide) ?_
            refine wp_iload rfl rfl ?_
            refine wp_iconst rfl ?_
            refine wp_iload rfl rfl ?_
            refine wp_ishl rfl ?_
            refine wp_ior rfl ?_
            refine wp_istore (L2 := [vr 53, vr 37, vi x2, vl x3, vu, vi ((i32 x5 ||| i32 ((i32 1 <<< (i32 x6 &&& 31)).toInt)).toInt), vi x6, vi 1]) rfl (Nat.le_of_ble_eq_true rfl) rfl ?_
            refine wp_iincR (L2 := [vr 53, vr 37, vi x2, vl x3, vu, vi ((i32 x5 ||| i32 ((i32 1 <<< (i32 x6 &&& 31)).toInt)).toInt), vi (x6 + 1), vi 1]) rfl rfl (by clear H; unfold R32; omega) rfl ?_
            refine wp_goto (tn := 16) rfl rfl ?_
            exact H
        · replace H := H.2 c12
          refine wp_iload rfl rfl ?_
          refine wp_aload rfl rfl ?_
          refine wp_getI (j := 6) rfl (congrArg Prod.fst (kf_37 X.1)) rfl ?_
          refine wp_icge (tn := 16) rfl rfl (fun c14 => ?_) (fun c14 => ?_)
          · replace H := H.1 c14
            refine wp_iconst rfl ?_
            refine wp_zret rfl rfl (by decide) ?_
            show Wp X _ 193 5 [vr 37, vi x2] [vi 0] _ _
            refine wp_ifeqT (tn := 17) rfl rfl (by decide) ?_
            refine wp_iconst rfl ?_
            refine wp_iret rfl rfl ?_
            show Wp X _ 209 69 [vr 53, vr 37, vi x2, vl x3, vu, vi x5, vi x6, zx7] [vi 0] _ _
            refine wp_aload rfl rfl ?_
            refine wp_getR (r := 55) rfl (congrArg Prod.fst (kf_53 X.1)) rfl ?_
            refine wp_iload rfl rfl ?_
            refine wp_iaload rfl (kf_56 X.1) ⟨g3.1, g3.2⟩ ?_
            refine wp_iclt (tn := 83) rfl rfl (fun c15 => ?_) (fun c15 => ?_)
            · replace H := H.1 c15
              refine wp_iconst rfl ?_
              refine wp_istore (L2 := [vr 53, vr 37, vi x2, vl x3, vu, vi x5, vi x6, vi 0]) rfl (Nat.le_of_ble_eq_true rfl) rfl ?_
              refine wp_goto (tn := 122) rfl rfl ?_
              refine wp_iload rfl rfl ?_
              refine wp_ifeqT (tn := 136) rfl rfl (by decide) ?_
              refine wp_iincR (L2 := [vr 53, vr 37, vi x2, vl x3, vu, vi x5, vi (x6 + 1), vi 0]) rfl rfl (by clear H; unfold R32; omega) rfl ?_
              refine wp_goto (tn := 16) rfl rfl ?_
              exact H
            · replace H := H.2 c15
              refine wp_iconst rfl ?_
              refine wp_goto (tn := 84) rfl rfl ?_
              refine wp_istore (L2 := [vr 53, vr 37, vi x2, vl x3, vu, vi x5, vi x6, vi 1]) rfl (Nat.le_of_ble_eq_true rfl) rfl ?_
              refine wp_goto (tn := 122) rfl rfl ?_
              refine wp_iload rfl rfl ?_
              refine wp_ifeqF (tn := 136) rfl rfl (by decide) ?_
              refine wp_iload rfl rfl ?_
              refine wp_iconst rfl ?_
              refine wp_iload rfl rfl ?_
              refine wp_ishl rfl ?_
              refine wp_ior rfl ?_
              refine wp_istore (L2 := [vr 53, vr 37, vi x2, vl x3, vu, vi ((i32 x5 ||| i32 ((i32 1 <<< (i32 x6 &&& 31)).toInt)).toInt), vi x6, vi 1]) rfl (Nat.le_of_ble_eq_true rfl) rfl ?_
              refine wp_iincR (L2 := [vr 53, vr 37, vi x2, vl x3, vu, vi ((i32 x5 ||| i32 ((i32 1 <<< (i32 x6 &&& 31)).toInt)).toInt), vi (x6 + 1), vi 1]) rfl rfl (by clear H; unfold R32; omega) rfl ?_
              refine wp_goto (tn := 16) rfl rfl ?_
              exact H
          · replace H := H.2 c14
            refine wp_iconst rfl ?_
            refine wp_goto (tn := 17) rfl rfl ?_
            refine wp_zret rfl rfl (by decide) ?_
            show Wp X _ 193 5 [vr 37, vi x2] [vi 1] _ _
            refine wp_ifeqF (tn := 17) rfl rfl (by decide) ?_
            refine wp_aload rfl rfl ?_
            refine wp_getR (r := 41) rfl (congrArg Prod.fst (kf_37 X.1)) rfl ?_
            refine wp_iload rfl rfl ?_
            have g16 := H.1
            replace H := H.2
            refine wp_iaload rfl (kf_42 X.1) g16 ?_
            refine wp_goto (tn := 18) rfl rfl ?_
            refine wp_iret rfl rfl ?_
            show Wp X _ 209 69 [vr 53, vr 37, vi x2, vl x3, vu, vi x5, vi x6, zx7] [vi (h 42 x2)] _ _
            refine wp_aload rfl rfl ?_
            refine wp_getR (r := 55) rfl (congrArg Prod.fst (kf_53 X.1)) rfl ?_
            refine wp_iload rfl rfl ?_
            refine wp_iaload rfl (kf_56 X.1) ⟨g3.1, g3.2⟩ ?_
            refine wp_iclt (tn := 83) rfl rfl (fun c17 => ?_) (fun c17 => ?_)
            · replace H := H.1 c17
              refine wp_iconst rfl ?_
              refine wp_istore (L2 := [vr 53, vr 37, vi x2, vl x3, vu, vi x5, vi x6, vi 0]) rfl (Nat.le_of_ble_eq_true rfl) rfl ?_
              refine wp_goto (tn := 122) rfl rfl ?_
              refine wp_iload rfl rfl ?_
              refine wp_ifeqT (tn := 136) rfl rfl (by decide) ?_
              refine wp_iincR (L2 := [vr 53, vr 37, vi x2, vl x3, vu, vi x5, vi (x6 + 1), vi 0]) rfl rfl (by clear H; unfold R32; omega) rfl ?_
              refine wp_goto (tn := 16) rfl rfl ?_
              exact H
            · replace H := H.2 c17
              refine wp_iconst rfl ?_
              refine wp_goto (tn := 84) rfl rfl ?_
              refine wp_istore (L2 := [vr 53, vr 37, vi x2, vl x3, vu, vi x5, vi x6, vi 1]) rfl (Nat.le_of_ble_eq_true rfl) rfl ?_
              refine wp_goto (tn := 122) rfl rfl ?_
              refine wp_iload rfl rfl ?_
              refine wp_ifeqF (tn := 136) rfl rfl (by decide) ?_
              refine wp_iload rfl rfl ?_
              refine wp_iconst rfl ?_
              refine wp_iload rfl rfl ?_
              refine wp_ishl rfl ?_
              refine wp_ior rfl ?_
              refine wp_istore (L2 := [vr 53, vr 37, vi x2, vl x3, vu, vi ((i32 x5 ||| i32 ((i32 1 <<< (i32 x6 &&& 31)).toInt)).toInt), vi x6, vi 1]) rfl (Nat.le_of_ble_eq_true rfl) rfl ?_
              refine wp_iincR (L2 := [vr 53, vr 37, vi x2, vl x3, vu, vi ((i32 x5 ||| i32 ((i32 1 <<< (i32 x6 &&& 31)).toInt)).toInt), vi (x6 + 1), vi 1]) rfl rfl (by clear H; unfold R32; omega) rfl ?_
              refine wp_goto (tn := 16) rfl rfl ?_
              exact H
      replace H := H.2 c11
      refine wp_look (tn := 114) rfl (by show (lsw [(97, 89), (114, 64)] 114 (h 55 x6)).toNat = 114; simp only [lsw]; rw [if_neg c4, if_neg c11]; rfl) ?_
      refine wp_iload rfl rfl ?_
      refine wp_lload rfl rfl ?_
      refine wp_call (k := 243) (ρ2 := 0) (L2 := [vi x6, vl x3, vu]) rfl rfl rfl (Nat.le_of_ble_eq_true rfl) (Nat.le_of_ble_eq_true rfl) (Nat.le_of_ble_eq_true rfl) (rcv_S rfl) rfl ?_
      refine wp_lload rfl rfl ?_
      refine wp_iconst rfl ?_
      refine wp_iload rfl rfl ?_
      refine wp_imul rfl ?_
      refine Wp.topI (y := (8 * x6)) (w32_I (by clear H; unfold R32; omega)) ?_
      refine wp_iconst rfl ?_
      refine wp_iadd rfl ?_
      refine Wp.topI (y := ((8 * x6) + 7)) (w32_I (by clear H; unfold R32; omega)) ?_
      refine wp_lushr rfl ?_
      refine wp_sipush rfl ?_
      refine wp_land rfl ?_
      refine wp_sipush rfl ?_
      refine wp_lcmp rfl ?_
      refine wp_ifeq (tn := 20) rfl rfl (fun c19 => ?_) (fun c19 => ?_)
      · replace H := H.1 c19
        refine wp_iconst rfl ?_
        refine wp_zret rfl rfl (by decide) ?_
        show Wp X _ 209 120 [vr 53, vr 37, vi x2, vl x3, vu, vi x5, vi x6, zx7] [vi 0] _ _
        refine wp_istore (L2 := [vr 53, vr 37, vi x2, vl x3, vu, vi x5, vi x6, vi 0]) rfl (Nat.le_of_ble_eq_true rfl) rfl ?_
        refine wp_iload rfl rfl ?_
        refine wp_ifeqT (tn := 136) rfl rfl (by decide) ?_
        refine wp_iincR (L2 := [vr 53, vr 37, vi x2, vl x3, vu, vi x5, vi (x6 + 1), vi 0]) rfl rfl (by clear H; unfold R32; omega) rfl ?_
        refine wp_goto (tn := 16) rfl rfl ?_
        exact H
      · replace H := H.2 c19
        refine wp_iconst rfl ?_
        refine wp_goto (tn := 21) rfl rfl ?_
        refine wp_zret rfl rfl (by decide) ?_
        show Wp X _ 209 120 [vr 53, vr 37, vi x2, vl x3, vu, vi x5, vi x6, zx7] [vi 1] _ _
        refine wp_istore (L2 := [vr 53, vr 37, vi x2, vl x3, vu, vi x5, vi x6, vi 1]) rfl (Nat.le_of_ble_eq_true rfl) rfl ?_
        refine wp_iload rfl rfl ?_
        refine wp_ifeqF (tn := 136) rfl rfl (by decide) ?_
        refine wp_iload rfl rfl ?_
        refine wp_iconst rfl ?_
        refine wp_iload rfl rfl ?_
        refine wp_ishl rfl ?_
        refine wp_ior rfl ?_
        refine wp_istore (L2 := [vr 53, vr 37, vi x2, vl x3, vu, vi ((i32 x5 ||| i32 ((i32 1 <<< (i32 x6 &&& 31)).toInt)).toInt), vi x6, vi 1]) rfl (Nat.le_of_ble_eq_true rfl) rfl ?_
        refine wp_iincR (L2 := [vr 53, vr 37, vi x2, vl x3, vu, vi ((i32 x5 ||| i32 ((i32 1 <<< (i32 x6 &&& 31)).toInt)).toInt), vi (x6 + 1), vi 1]) rfl rfl (by clear H; unfold R32; omega) rfl ?_
        refine wp_goto (tn := 16) rfl rfl ?_
        exact H
/-- RuleText.readRules()V, from 0 -/
theorem S210_45_0 {X : Nat × (Int → Int)} {h : HP} {Q : bQ}  (H : Wp X 1 211 0 [vr 45] [] h (fun v h' => Wp X 4 210 4 [vr 45, vu, vu] (psh v []) h' Q)) : Wp X 4 210 0 [vr 45, vu, vu] [] h Q := by
  refine wp_aload rfl rfl ?_
  exact wp_call (k := 211) (ρ2 := 1) (L2 := [vr 45]) rfl rfl rfl (Nat.le_of_ble_eq_true rfl) (Nat.le_of_ble_eq_true rfl) (Nat.le_of_ble_eq_true rfl) (rcv_V rfl (congrArg Prod.fst (kf_45 X.1))) rfl H
/-- RuleText.readRules()V, from 4 -/
theorem S210_45_4 {X : Nat × (Int → Int)} {h : HP} {Q : bQ}  (H : (((h 45 4) ≠ 0 → Wp X 4 210 16 [vr 45, vi 0, vi 0] [] h Q) ∧ ((h 45 4) = 0 → Q none h))) : Wp X 4 210 4 [vr 45, vu, vu] [] h Q := by
  refine wp_aload rfl rfl ?_
  refine wp_getI (j := 4) rfl (congrArg Prod.fst (kf_45 X.1)) rfl ?_
  refine wp_ifne (tn := 12) rfl rfl (fun c1 => ?_) (fun c1 => ?_)
  · replace H := H.1 c1
    refine wp_iconst rfl ?_
    refine wp_istore (L2 := [vr 45, vi 0, vu]) rfl (Nat.le_of_ble_eq_true rfl) rfl ?_
    refine wp_iconst rfl ?_
    refine wp_istore (L2 := [vr 45, vi 0, vi 0]) rfl (Nat.le_of_ble_eq_true rfl) rfl ?_
    exact H
  · replace H := H.2 c1
    exact wp_vret rfl rfl H
/-- RuleText.readRules()V, from 16 -/
theorem S210_45_16 {X : Nat × (Int → Int)} {h : HP} {Q : bQ} (x1 : Int) (x2 : Int) (H : ((8 ≤ x2 → Q none (upd2 h 45 6 x1)) ∧ (x2 < 8 → Wp X 3 212 0 [vr 45, vi x2, vi x1] [] h (fun v h' => Wp X 4 210 28 [vr 45, vi x1, vi x2] (psh v []) h' Q)))) : Wp X 4 210 16 [vr 45, vi x1, vi x2] [] h Q := by
  refine wp_iload rfl rfl ?_
  refine wp_iconst rfl ?_
  refine wp_icge (tn := 79) rfl rfl (fun c1 => ?_) (fun c1 => ?_)
  · replace H := H.1 c1
    refine wp_aload rfl rfl ?_
    refine wp_iload rfl rfl ?_
    refine wp_putI (j := 6) rfl (congrArg Prod.fst (kf_45 X.1)) rfl rfl rfl ?_
    exact wp_vret rfl rfl H
  · replace H := H.2 c1
    refine wp_aload rfl rfl ?_
    refine wp_iload rfl rfl ?_
    refine wp_iload rfl rfl ?_
    exact wp_call (k := 212) (ρ2 := 3) (L2 := [vr 45, vi x2, vi x1]) rfl rfl rfl (Nat.le_of_ble_eq_true rfl) (Nat.le_of_ble_eq_true rfl) (Nat.le_of_ble_eq_true rfl) (rcv_V rfl (congrArg Prod.fst (kf_45 X.1))) rfl H
/-- RuleText.readRules()V, from 28 -/
theorem S210_45_28 {X : Nat × (Int → Int)} {h : HP} {Q : bQ} (zx1 : aV) (x2 : Int) (s0 : Int) (H : (((h 45 6) = (-1) → ((R32 (x2 + 1)) ∧ ((s0 ≠ (h 45 4) → ((s0 < 0 → Q none (upd2 (upd2 h 45 5 (x2 + 1)) 45 6 s0)) ∧ (0 ≤ s0 → (((h 45 4) ≤ s0 → Q none (upd2 (upd2 h 45 5 (x2 + 1)) 45 6 s0)) ∧ (s0 < (h 45 4) → ((0 ≤ s0 ∧ s0 < 50) ∧ (((h 46 s0) = 59 → Wp X 4 210 16 [vr 45, vi (s0 + 1), vi (x2 + 1)] [] (upd2 h 45 5 (x2 + 1)) Q) ∧ ((h 46 s0) ≠ 59 → Q none (upd2 (upd2 h 45 5 (x2 + 1)) 45 6 s0))))))))) ∧ (s0 = (h 45 4) → Q none (upd2 h 45 5 (x2 + 1)))))) ∧ ((h 45 6) ≠ (-1) → Q none h))) : Wp X 4 210 28 [vr 45, zx1, vi x2] [vi s0] h Q := by
  refine wp_istore (L2 := [vr 45, vi s0, vi x2]) rfl (Nat.le_of_ble_eq_true rfl) rfl ?_
  refine wp_aload rfl rfl ?_
  refine wp_getI (j := 6) rfl (congrArg Prod.fst (kf_45 X.1)) rfl ?_
  refine wp_iconst rfl ?_
  refine wp_iceq (tn := 38) rfl rfl (fun c1 => ?_) (fun c1 => ?_)
  · replace H := H.1 c1
    refine wp_aload rfl rfl ?_
    refine wp_iload rfl rfl ?_
    refine wp_iconst rfl ?_
    refine wp_iadd rfl ?_
    have g2 := H.1
    replace H := H.2
    refine Wp.topI (y := (x2 + 1)) (w32_I g2) ?_
    refine wp_putI (j := 5) rfl (congrArg Prod.fst (kf_45 X.1)) rfl rfl rfl ?_
    refine wp_iload rfl rfl ?_
    refine wp_aload rfl rfl ?_
    refine wp_getI (j := 4) rfl (congrArg Prod.fst (kf_45 X.1)) rfl ?_
    refine Wp.topI (y := (h 45 4)) (upd2_o (by decide)) ?_
    refine wp_icne (tn := 54) rfl rfl (fun c3 => ?_) (fun c3 => ?_)
    · replace H := H.1 c3
      refine wp_aload rfl rfl ?_
      refine wp_iload rfl rfl ?_
      refine wp_call (k := 218) (ρ2 := 0) (L2 := [vr 45, vi s0]) rfl rfl rfl (Nat.le_of_ble_eq_true rfl) (Nat.le_of_ble_eq_true rfl) (Nat.le_of_ble_eq_true rfl) (rcv_V rfl (congrArg Prod.fst (kf_45 X.1))) rfl ?_
      refine wp_iload rfl rfl ?_
      refine wp_iflt (tn := 21) rfl rfl (fun c4 => ?_) (fun c4 => ?_)
      · replace H := H.1 c4
        refine wp_iconst rfl ?_
        refine wp_iret rfl rfl ?_
        show Wp X _ 210 59 [vr 45, vi s0, vi x2] [vi (-1)] _ _
        refine wp_iconst rfl ?_
        refine wp_iceqF (tn := 70) rfl rfl (by decide) ?_
        refine wp_aload rfl rfl ?_
        refine wp_iload rfl rfl ?_
        refine wp_putI (j := 6) rfl (congrArg Prod.fst (kf_45 X.1)) rfl rfl rfl ?_
        exact wp_vret rfl rfl H
      · replace H := H.2 c4
        refine wp_iload rfl rfl ?_
        refine wp_aload rfl rfl ?_
        refine wp_getI (j := 4) rfl (congrArg Prod.fst (kf_45 X.1)) rfl ?_
        refine Wp.topI (y := (h 45 4)) (upd2_o (by decide)) ?_
        refine wp_icge (tn := 21) rfl rfl (fun c5 => ?_) (fun c5 => ?_)
        · replace H := H.1 c5
          refine wp_iconst rfl ?_
          refine wp_iret rfl rfl ?_
          show Wp X _ 210 59 [vr 45, vi s0, vi x2] [vi (-1)] _ _
          refine wp_iconst rfl ?_
          refine wp_iceqF (tn := 70) rfl rfl (by decide) ?_
          refine wp_aload rfl rfl ?_
          refine wp_iload rfl rfl ?_
          refine wp_putI (j := 6) rfl (congrArg Prod.fst (kf_45 X.1)) rfl rfl rfl ?_
          exact wp_vret rfl rfl H
        · replace H := H.2 c5
          refine wp_aload rfl rfl ?_
          refine wp_getR (r := 45) rfl (congrArg Prod.fst (kf_45 X.1)) rfl ?_
          refine wp_iload rfl rfl ?_
          have g6 := H.1
          replace H := H.2
          refine wp_iaload rfl (kf_46 X.1) g6 ?_
          refine Wp.topI (y := (h 46 s0)) (congrFun (upd2_ne (by decide)) _) ?_
          refine wp_goto (tn := 22) rfl rfl ?_
          refine wp_iret rfl rfl ?_
          show Wp X _ 210 59 [vr 45, vi s0, vi x2] [vi (h 46 s0)] _ _
          refine wp_iconst rfl ?_
          refine wp_iceq (tn := 70) rfl rfl (fun c7 => ?_) (fun c7 => ?_)
          · replace H := H.1 c7
            refine wp_iincR (L2 := [vr 45, vi (s0 + 1), vi x2]) rfl rfl (by clear H; unfold R32; omega) rfl ?_
            refine wp_iincR (L2 := [vr 45, vi (s0 + 1), vi (x2 + 1)]) rfl rfl g2 rfl ?_
            refine wp_goto (tn := 16) rfl rfl ?_
            exact H
          · replace H := H.2 c7
            refine wp_aload rfl rfl ?_
            refine wp_iload rfl rfl ?_
            refine wp_putI (j := 6) rfl (congrArg Prod.fst (kf_45 X.1)) rfl rfl rfl ?_
            exact wp_vret rfl rfl H
    · replace H := H.2 c3
      exact wp_vret rfl rfl H
  · replace H := H.2 c1
    exact wp_vret rfl rfl H
/-- RuleText.readRules()V, from 0 -/
theorem S210_53_0 {X : Nat × (Int → Int)} {h : HP} {Q : bQ}  (H : Wp X 1 211 0 [vr 53] [] h (fun v h' => Wp X 4 210 4 [vr 53, vu, vu] (psh v []) h' Q)) : Wp X 4 210 0 [vr 53, vu, vu] [] h Q := by
  refine wp_aload rfl rfl ?_
  exact wp_call (k := 211) (ρ2 := 1) (L2 := [vr 53]) rfl rfl rfl (Nat.le_of_ble_eq_true rfl) (Nat.le_of_ble_eq_true rfl) (Nat.le_of_ble_eq_true rfl) (rcv_V rfl (congrArg Prod.fst (kf_53 X.1))) rfl H
/-- RuleText.readRules()V, from 4 -/
theorem S210_53_4 {X : Nat × (Int → Int)} {h : HP} {Q : bQ}  (H : (((h 53 4) ≠ 0 → Wp X 4 210 16 [vr 53, vi 0, vi 0] [] h Q) ∧ ((h 53 4) = 0 → Q none h))) : Wp X 4 210 4 [vr 53, vu, vu] [] h Q := by
  refine wp_aload rfl rfl ?_
  refine wp_getI (j := 4) rfl (congrArg Prod.fst (kf_53 X.1)) rfl ?_
  refine wp_ifne (tn := 12) rfl rfl (fun c1 => ?_) (fun c1 => ?_)
  · replace H := H.1 c1
    refine wp_iconst rfl ?_
    refine wp_istore (L2 := [vr 53, vi 0, vu]) rfl (Nat.le_of_ble_eq_true rfl) rfl ?_
    refine wp_iconst rfl ?_
    refine wp_istore (L2 := [vr 53, vi 0, vi 0]) rfl (Nat.le_of_ble_eq_true rfl) rfl ?_
    exact H
  · replace H := H.2 c1
    exact wp_vret rfl rfl H
/-- RuleText.readRules()V, from 16 -/
theorem S210_53_16 {X : Nat × (Int → Int)} {h : HP} {Q : bQ} (x1 : Int) (x2 : Int) (H : ((8 ≤ x2 → Q none (upd2 h 53 6 x1)) ∧ (x2 < 8 → Wp X 3 212 0 [vr 53, vi x2, vi x1] [] h (fun v h' => Wp X 4 210 28 [vr 53, vi x1, vi x2] (psh v []) h' Q)))) : Wp X 4 210 16 [vr 53, vi x1, vi x2] [] h Q := by
  refine wp_iload rfl rfl ?_
  refine wp_iconst rfl ?_
  refine wp_icge (tn := 79) rfl rfl (fun c1 => ?_) (fun c1 => ?_)
  · replace H := H.1 c1
    refine wp_aload rfl rfl ?_
    refine wp_iload rfl rfl ?_
    refine wp_putI (j := 6) rfl (congrArg Prod.fst (kf_53 X.1)) rfl rfl rfl ?_
    exact wp_vret rfl rfl H
  · replace H := H.2 c1
    refine wp_aload rfl rfl ?_
    refine wp_iload rfl rfl ?_
    refine wp_iload rfl rfl ?_
    exact wp_call (k := 212) (ρ2 := 3) (L2 := [vr 53, vi x2, vi x1]) rfl rfl rfl (Nat.le_of_ble_eq_true rfl) (Nat.le_of_ble_eq_true rfl) (Nat.le_of_ble_eq_true rfl) (rcv_V rfl (congrArg Prod.fst (kf_53 X.1))) rfl H
/-- RuleText.readRules()V, from 28 -/
theorem S210_53_28 {X : Nat × (Int → Int)} {h : HP} {Q : bQ} (zx1 : aV) (x2 : Int) (s0 : Int) (H : (((h 53 6) = (-1) → ((R32 (x2 + 1)) ∧ ((s0 ≠ (h 53 4) → ((s0 < 0 → Q none (upd2 (upd2 h 53 5 (x2 + 1)) 53 6 s0)) ∧ (0 ≤ s0 → (((h 53 4) ≤ s0 → Q none (upd2 (upd2 h 53 5 (x2 + 1)) 53 6 s0)) ∧ (s0 < (h 53 4) → ((0 ≤ s0 ∧ s0 < 50) ∧ (((h 54 s0) = 59 → Wp X 4 210 16 [vr 53, vi (s0 + 1), vi (x2 + 1)] [] (upd2 h 53 5 (x2 + 1)) Q) ∧ ((h 54 s0) ≠ 59 → Q none (upd2 (upd2 h 53 5 (x2 + 1)) 53 6 s0))))))))) ∧ (s0 = (h 53 4) → Q none (upd2 h 53 5 (x2 + 1)))))) ∧ ((h 53 6) ≠ (-1) → Q none h))) : Wp X 4 210 28 [vr 53, zx1, vi x2] [vi s0] h Q := by
  refine wp_istore (L2 := [vr 53, vi s0, vi x2]) rfl (Nat.le_of_ble_eq_true rfl) rfl ?_
  refine wp_aload rfl rfl ?_
  refine wp_getI (j := 6) rfl (congrArg Prod.fst (kf_53 X.1)) rfl ?_
  refine wp_iconst rfl ?_
  refine wp_iceq (tn := 38) rfl rfl (fun c1 => ?_) (fun c1 => ?_)
  · replace H := H.1 c1
    refine wp_aload rfl rfl ?_
    refine wp_iload rfl rfl ?_
    refine wp_iconst rfl ?_
    refine wp_iadd rfl ?_
    have g2 := H.1
    replace H := H.2
    refine Wp.topI (y := (x2 + 1)) (w32_I g2) ?_
    refine wp_putI (j := 5) rfl (congrArg Prod.fst (kf_53 X.1)) rfl rfl rfl ?_
    refine wp_iload rfl rfl ?_
    refine wp_aload rfl rfl ?_
    refine wp_getI (j := 4) rfl (congrArg Prod.fst (kf_53 X.1)) rfl ?_
    refine Wp.topI (y := (h 53 4)) (upd2_o (by decide)) ?_
    refine wp_icne (tn := 54) rfl rfl (fun c3 => ?_) (fun c3 => ?_)
    · replace H := H.1 c3
      refine wp_aload rfl rfl ?_
      refine wp_iload rfl rfl ?_
      refine wp_call (k := 218) (ρ2 := 0) (L2 := [vr 53, vi s0]) rfl rfl rfl (Nat.le_of_ble_eq_true rfl) (Nat.le_of_ble_eq_true rfl) (Nat.le_of_ble_eq_true rfl) (rcv_V rfl (congrArg Prod.fst (kf_53 X.1))) rfl ?_
      refine wp_iload rfl rfl ?_
      refine wp_iflt (tn := 21) rfl rfl (fun c4 => ?_) (fun c4 => ?_)
      · replace H := H.1 c4
        refine wp_iconst rfl ?_
        refine wp_iret rfl rfl ?_
        show Wp X _ 210 59 [vr 53, vi s0, vi x2] [vi (-1)] _ _
        refine wp_iconst rfl ?_
        refine wp_iceqF (tn := 70) rfl rfl (by decide) ?_
        refine wp_aload rfl rfl ?_
        refine wp_iload rfl rfl ?_
        refine wp_putI (j := 6) rfl (congrArg Prod.fst (kf_53 X.1)) rfl rfl rfl ?_
        exact wp_vret rfl rfl H
      · replace H := H.2 c4
        refine wp_iload rfl rfl ?_
        refine wp_aload rfl rfl ?_
        refine wp_getI (j := 4) rfl (congrArg Prod.fst (kf_53 X.1)) rfl ?_
        refine Wp.topI (y := (h 53 4)) (upd2_o (by decide)) ?_
        refine wp_icge (tn := 21) rfl rfl (fun c5 => ?_) (fun c5 => ?_)
        · replace H := H.1 c5
          refine wp_iconst rfl ?_
          refine wp_iret rfl rfl ?_
          show Wp X _ 210 59 [vr 53, vi s0, vi x2] [vi (-1)] _ _
          refine wp_iconst rfl ?_
          refine wp_iceqF (tn := 70) rfl rfl (by decide) ?_
          refine wp_aload rfl rfl ?_
          refine wp_iload rfl rfl ?_
          refine wp_putI (j := 6) rfl (congrArg Prod.fst (kf_53 X.1)) rfl rfl rfl ?_
          exact wp_vret rfl rfl H
        · replace H := H.2 c5
          refine wp_aload rfl rfl ?_
          refine wp_getR (r := 53) rfl (congrArg Prod.fst (kf_53 X.1)) rfl ?_
          refine wp_iload rfl rfl ?_
          have g6 := H.1
          replace H := H.2
          refine wp_iaload rfl (kf_54 X.1) g6 ?_
          refine Wp.topI (y := (h 54 s0)) (congrFun (upd2_ne (by decide)) _) ?_
          refine wp_goto (tn := 22) rfl rfl ?_
          refine wp_iret rfl rfl ?_
          show Wp X _ 210 59 [vr 53, vi s0, vi x2] [vi (h 54 s0)] _ _
          refine wp_iconst rfl ?_
          refine wp_iceq (tn := 70) rfl rfl (fun c7 => ?_) (fun c7 => ?_)
          · replace H := H.1 c7
            refine wp_iincR (L2 := [vr 53, vi (s0 + 1), vi x2]) rfl rfl (by clear H; unfold R32; omega) rfl ?_
            refine wp_iincR (L2 := [vr 53, vi (s0 + 1), vi (x2 + 1)]) rfl rfl g2 rfl ?_
            refine wp_goto (tn := 16) rfl rfl ?_
            exact H
          · replace H := H.2 c7
            refine wp_aload rfl rfl ?_
            refine wp_iload rfl rfl ?_
            refine wp_putI (j := 6) rfl (congrArg Prod.fst (kf_53 X.1)) rfl rfl rfl ?_
            exact wp_vret rfl rfl H
    · replace H := H.2 c3
      exact wp_vret rfl rfl H
  · replace H := H.2 c1
    exact wp_vret rfl rfl H
/-- RuleText.forgetRules()V, from 0 -/
theorem S211_45_0 {X : Nat × (Int → Int)} {h : HP} {Q : bQ}  (H : Wp X 0 244 0 [vr 49, vu] [] (upd2 (upd2 (upd2 (upd2 h 45 5 0) 45 6 (-1)) 45 7 99) 45 8 99) (fun v h' => Wp X 1 211 29 [vr 45] (psh v []) h' Q)) : Wp X 1 211 0 [vr 45] [] h Q := by
  refine wp_aload rfl rfl ?_
  refine wp_iconst rfl ?_
  refine wp_putI (j := 5) rfl (congrArg Prod.fst (kf_45 X.1)) rfl rfl rfl ?_
  refine wp_aload rfl rfl ?_
  refine wp_iconst rfl ?_
  refine wp_putI (j := 6) rfl (congrArg Prod.fst (kf_45 X.1)) rfl rfl rfl ?_
  refine wp_aload rfl rfl ?_
  refine wp_iconst rfl ?_
  refine wp_putI (j := 7) rfl (congrArg Prod.fst (kf_45 X.1)) rfl rfl rfl ?_
  refine wp_aload rfl rfl ?_
  refine wp_iconst rfl ?_
  refine wp_putI (j := 8) rfl (congrArg Prod.fst (kf_45 X.1)) rfl rfl rfl ?_
  refine wp_aload rfl rfl ?_
  refine wp_getR (r := 48) rfl (congrArg Prod.fst (kf_45 X.1)) rfl ?_
  exact wp_call (k := 244) (ρ2 := 0) (L2 := [vr 49, vu]) rfl rfl rfl (Nat.le_of_ble_eq_true rfl) (Nat.le_of_ble_eq_true rfl) (Nat.le_of_ble_eq_true rfl) (rcv_V rfl (congrArg Prod.fst (kf_49 X.1))) rfl H
/-- RuleText.forgetRules()V, from 29 -/
theorem S211_45_29 {X : Nat × (Int → Int)} {h : HP} {Q : bQ} (zx0 : aV) (H : Q none h) : Wp X 1 211 29 [zx0] [] h Q := by
  exact wp_vret rfl rfl H
/-- RuleText.forgetRules()V, from 0 -/
theorem S211_53_0 {X : Nat × (Int → Int)} {h : HP} {Q : bQ}  (H : Wp X 0 244 0 [vr 57, vu] [] (upd2 (upd2 (upd2 (upd2 h 53 5 0) 53 6 (-1)) 53 7 99) 53 8 99) (fun v h' => Wp X 1 211 29 [vr 53] (psh v []) h' Q)) : Wp X 1 211 0 [vr 53] [] h Q := by
  refine wp_aload rfl rfl ?_
  refine wp_iconst rfl ?_
  refine wp_putI (j := 5) rfl (congrArg Prod.fst (kf_53 X.1)) rfl rfl rfl ?_
  refine wp_aload rfl rfl ?_
  refine wp_iconst rfl ?_
  refine wp_putI (j := 6) rfl (congrArg Prod.fst (kf_53 X.1)) rfl rfl rfl ?_
  refine wp_aload rfl rfl ?_
  refine wp_iconst rfl ?_
  refine wp_putI (j := 7) rfl (congrArg Prod.fst (kf_53 X.1)) rfl rfl rfl ?_
  refine wp_aload rfl rfl ?_
  refine wp_iconst rfl ?_
  refine wp_putI (j := 8) rfl (congrArg Prod.fst (kf_53 X.1)) rfl rfl rfl ?_
  refine wp_aload rfl rfl ?_
  refine wp_getR (r := 56) rfl (congrArg Prod.fst (kf_53 X.1)) rfl ?_
  exact wp_call (k := 244) (ρ2 := 0) (L2 := [vr 57, vu]) rfl rfl rfl (Nat.le_of_ble_eq_true rfl) (Nat.le_of_ble_eq_true rfl) (Nat.le_of_ble_eq_true rfl) (rcv_V rfl (congrArg Prod.fst (kf_57 X.1))) rfl H
/-- RuleText.forgetRules()V, from 29 -/
theorem S211_53_29 {X : Nat × (Int → Int)} {h : HP} {Q : bQ} (zx0 : aV) (H : Q none h) : Wp X 1 211 29 [zx0] [] h Q := by
  exact wp_vret rfl rfl H
/-- RuleText.readRule(II)I, from 0 -/
theorem S212_45_0 {X : Nat × (Int → Int)} {h : HP} {Q : bQ} (x1 : Int) (x2 : Int) (H : ((x2 < 0 → Q (some (vi x2)) (upd2 h 45 6 x2)) ∧ (0 ≤ x2 → (((h 45 4) ≤ x2 → Q (some (vi x2)) (upd2 h 45 6 x2)) ∧ (x2 < (h 45 4) → ((0 ≤ x2 ∧ x2 < 50) ∧ (((h 46 x2) = 97 → Wp X 2 213 0 [vr 45, vi x1, vi x2, vi 3, vu] [] h (fun v h' => Wp X 3 212 62 [vr 45, vi x1, vi x2] (psh v []) h' Q)) ∧ ((h 46 x2) ≠ 97 → (((h 46 x2) = 114 → Wp X 2 213 0 [vr 45, vi x1, vi x2, vi 2, vu] [] h (fun v h' => Wp X 3 212 54 [vr 45, vi x1, vi x2] (psh v []) h' Q)) ∧ ((h 46 x2) ≠ 114 → (((h 46 x2) = 122 → Wp X 2 214 0 [vr 45, vi x1, vi x2, vu, vu, vu] [] h (fun v h' => Wp X 3 212 46 [vr 45, vi x1, vi x2] (psh v []) h' Q)) ∧ ((h 46 x2) ≠ 122 → Q (some (vi x2)) (upd2 h 45 6 x2))))))))))))) : Wp X 3 212 0 [vr 45, vi x1, vi x2] [] h Q := by
  refine wp_aload rfl rfl ?_
  refine wp_iload rfl rfl ?_
  refine wp_call (k := 218) (ρ2 := 0) (L2 := [vr 45, vi x2]) rfl rfl rfl (Nat.le_of_ble_eq_true rfl) (Nat.le_of_ble_eq_true rfl) (Nat.le_of_ble_eq_true rfl) (rcv_V rfl (congrArg Prod.fst (kf_45 X.1))) rfl ?_
  refine wp_iload rfl rfl ?_
  refine wp_iflt (tn := 21) rfl rfl (fun c1 => ?_) (fun c1 => ?_)
  · replace H := H.1 c1
    refine wp_iconst rfl ?_
    refine wp_iret rfl rfl ?_
    show Wp X _ 212 5 [vr 45, vi x1, vi x2] [vi (-1)] _ _
    refine wp_look (tn := 63) rfl rfl ?_
    refine wp_aload rfl rfl ?_
    refine wp_iload rfl rfl ?_
    refine wp_call (k := 216) (ρ2 := 0) (L2 := [vr 45, vi x2]) rfl rfl rfl (Nat.le_of_ble_eq_true rfl) (Nat.le_of_ble_eq_true rfl) (Nat.le_of_ble_eq_true rfl) (rcv_V rfl (congrArg Prod.fst (kf_45 X.1))) rfl ?_
    refine wp_aload rfl rfl ?_
    refine wp_iload rfl rfl ?_
    refine wp_putI (j := 6) rfl (congrArg Prod.fst (kf_45 X.1)) rfl rfl rfl ?_
    refine wp_iload rfl rfl ?_
    refine wp_iret rfl rfl ?_
    show Wp X _ 212 68 [vr 45, vi x1, vi x2] [vi x2] _ _
    exact wp_iret rfl rfl H
  · replace H := H.2 c1
    refine wp_iload rfl rfl ?_
    refine wp_aload rfl rfl ?_
    refine wp_getI (j := 4) rfl (congrArg Prod.fst (kf_45 X.1)) rfl ?_
    refine wp_icge (tn := 21) rfl rfl (fun c2 => ?_) (fun c2 => ?_)
    · replace H := H.1 c2
      refine wp_iconst rfl ?_
      refine wp_iret rfl rfl ?_
      show Wp X _ 212 5 [vr 45, vi x1, vi x2] [vi (-1)] _ _
      refine wp_look (tn := 63) rfl rfl ?_
      refine wp_aload rfl rfl ?_
      refine wp_iload rfl rfl ?_
      refine wp_call (k := 216) (ρ2 := 0) (L2 := [vr 45, vi x2]) rfl rfl rfl (Nat.le_of_ble_eq_true rfl) (Nat.le_of_ble_eq_true rfl) (Nat.le_of_ble_eq_true rfl) (rcv_V rfl (congrArg Prod.fst (kf_45 X.1))) rfl ?_
      refine wp_aload rfl rfl ?_
      refine wp_iload rfl rfl ?_
      refine wp_putI (j := 6) rfl (congrArg Prod.fst (kf_45 X.1)) rfl rfl rfl ?_
      refine wp_iload rfl rfl ?_
      refine wp_iret rfl rfl ?_
      show Wp X _ 212 68 [vr 45, vi x1, vi x2] [vi x2] _ _
      exact wp_iret rfl rfl H
    · replace H := H.2 c2
      refine wp_aload rfl rfl ?_
      refine wp_getR (r := 45) rfl (congrArg Prod.fst (kf_45 X.1)) rfl ?_
      refine wp_iload rfl rfl ?_
      have g3 := H.1
      replace H := H.2
      refine wp_iaload rfl (kf_46 X.1) g3 ?_
      refine wp_goto (tn := 22) rfl rfl ?_
      refine wp_iret rfl rfl ?_
      show Wp X _ 212 5 [vr 45, vi x1, vi x2] [vi (h 46 x2)] _ _
      by_cases c4 : (h 46 x2) = 97
      · replace H := H.1 c4
        refine wp_look (tn := 55) rfl (by rw [c4]; rfl) ?_
        refine wp_aload rfl rfl ?_
        refine wp_iload rfl rfl ?_
        refine wp_iload rfl rfl ?_
        refine wp_iconst rfl ?_
        exact wp_call (k := 213) (ρ2 := 2) (L2 := [vr 45, vi x1, vi x2, vi 3, vu]) rfl rfl rfl (Nat.le_of_ble_eq_true rfl) (Nat.le_of_ble_eq_true rfl) (Nat.le_of_ble_eq_true rfl) (rcv_V rfl (congrArg Prod.fst (kf_45 X.1))) rfl H
      replace H := H.2 c4
      by_cases c5 : (h 46 x2) = 114
      · replace H := H.1 c5
        refine wp_look (tn := 47) rfl (by rw [c5]; rfl) ?_
        refine wp_aload rfl rfl ?_
        refine wp_iload rfl rfl ?_
        refine wp_iload rfl rfl ?_
        refine wp_iconst rfl ?_
        exact wp_call (k := 213) (ρ2 := 2) (L2 := [vr 45, vi x1, vi x2, vi 2, vu]) rfl rfl rfl (Nat.le_of_ble_eq_true rfl) (Nat.le_of_ble_eq_true rfl) (Nat.le_of_ble_eq_true rfl) (rcv_V rfl (congrArg Prod.fst (kf_45 X.1))) rfl H
      replace H := H.2 c5
      by_cases c6 : (h 46 x2) = 122
      · replace H := H.1 c6
        refine wp_look (tn := 40) rfl (by rw [c6]; rfl) ?_
        refine wp_aload rfl rfl ?_
        refine wp_iload rfl rfl ?_
        refine wp_iload rfl rfl ?_
        exact wp_call (k := 214) (ρ2 := 2) (L2 := [vr 45, vi x1, vi x2, vu, vu, vu]) rfl rfl rfl (Nat.le_of_ble_eq_true rfl) (Nat.le_of_ble_eq_true rfl) (Nat.le_of_ble_eq_true rfl) (rcv_V rfl (congrArg Prod.fst (kf_45 X.1))) rfl H
      replace H := H.2 c6
      refine wp_look (tn := 63) rfl (by show (lsw [(97, 55), (114, 47), (122, 40)] 63 (h 46 x2)).toNat = 63; simp only [lsw]; rw [if_neg c4, if_neg c5, if_neg c6]; rfl) ?_
      refine wp_aload rfl rfl ?_
      refine wp_iload rfl rfl ?_
      refine wp_call (k := 216) (ρ2 := 0) (L2 := [vr 45, vi x2]) rfl rfl rfl (Nat.le_of_ble_eq_true rfl) (Nat.le_of_ble_eq_true rfl) (Nat.le_of_ble_eq_true rfl) (rcv_V rfl (congrArg Prod.fst (kf_45 X.1))) rfl ?_
      refine wp_aload rfl rfl ?_
      refine wp_iload rfl rfl ?_
      refine wp_putI (j := 6) rfl (congrArg Prod.fst (kf_45 X.1)) rfl rfl rfl ?_
      refine wp_iload rfl rfl ?_
      refine wp_iret rfl rfl ?_
      show Wp X _ 212 68 [vr 45, vi x1, vi x2] [vi x2] _ _
      exact wp_iret rfl rfl H
/-- RuleText.readRule(II)I, from 46 -/
theorem S212_45_46 {X : Nat × (Int → Int)} {h : HP} {Q : bQ} (zx0 : aV) (zx1 : aV) (zx2 : aV) (s0 : Int) (H : Q (some (vi s0)) h) : Wp X 3 212 46 [zx0, zx1, zx2] [vi s0] h Q := by
  exact wp_iret rfl rfl H
/-- RuleText.readRule(II)I, from 54 -/
theorem S212_45_54 {X : Nat × (Int → Int)} {h : HP} {Q : bQ} (zx0 : aV) (zx1 : aV) (zx2 : aV) (s0 : Int) (H : Q (some (vi s0)) h) : Wp X 3 212 54 [zx0, zx1, zx2] [vi s0] h Q := by
  exact wp_iret rfl rfl H
/-- RuleText.readRule(II)I, from 62 -/
theorem S212_45_62 {X : Nat × (Int → Int)} {h : HP} {Q : bQ} (zx0 : aV) (zx1 : aV) (zx2 : aV) (s0 : Int) (H : Q (some (vi s0)) h) : Wp X 3 212 62 [zx0, zx1, zx2] [vi s0] h Q := by
  exact wp_iret rfl rfl H
/-- RuleText.readRule(II)I, from 0 -/
theorem S212_53_0 {X : Nat × (Int → Int)} {h : HP} {Q : bQ} (x1 : Int) (x2 : Int) (H : ((x2 < 0 → Q (some (vi x2)) (upd2 h 53 6 x2)) ∧ (0 ≤ x2 → (((h 53 4) ≤ x2 → Q (some (vi x2)) (upd2 h 53 6 x2)) ∧ (x2 < (h 53 4) → ((0 ≤ x2 ∧ x2 < 50) ∧ (((h 54 x2) = 97 → Wp X 2 213 0 [vr 53, vi x1, vi x2, vi 3, vu] [] h (fun v h' => Wp X 3 212 62 [vr 53, vi x1, vi x2] (psh v []) h' Q)) ∧ ((h 54 x2) ≠ 97 → (((h 54 x2) = 114 → Wp X 2 213 0 [vr 53, vi x1, vi x2, vi 2, vu] [] h (fun v h' => Wp X 3 212 54 [vr 53, vi x1, vi x2] (psh v []) h' Q)) ∧ ((h 54 x2) ≠ 114 → (((h 54 x2) = 122 → Wp X 2 214 0 [vr 53, vi x1, vi x2, vu, vu, vu] [] h (fun v h' => Wp X 3 212 46 [vr 53, vi x1, vi x2] (psh v []) h' Q)) ∧ ((h 54 x2) ≠ 122 → Q (some (vi x2)) (upd2 h 53 6 x2))))))))))))) : Wp X 3 212 0 [vr 53, vi x1, vi x2] [] h Q := by
  refine wp_aload rfl rfl ?_
  refine wp_iload rfl rfl ?_
  refine wp_call (k := 218) (ρ2 := 0) (L2 := [vr 53, vi x2]) rfl rfl rfl (Nat.le_of_ble_eq_true rfl) (Nat.le_of_ble_eq_true rfl) (Nat.le_of_ble_eq_true rfl) (rcv_V rfl (congrArg Prod.fst (kf_53 X.1))) rfl ?_
  refine wp_iload rfl rfl ?_
  refine wp_iflt (tn := 21) rfl rfl (fun c1 => ?_) (fun c1 => ?_)
  · replace H := H.1 c1
    refine wp_iconst rfl ?_
    refine wp_iret rfl rfl ?_
    show Wp X _ 212 5 [vr 53, vi x1, vi x2] [vi (-1)] _ _
    refine wp_look (tn := 63) rfl rfl ?_
    refine wp_aload rfl rfl ?_
    refine wp_iload rfl rfl ?_
    refine wp_call (k := 216) (ρ2 := 0) (L2 := [vr 53, vi x2]) rfl rfl rfl (Nat.le_of_ble_eq_true rfl) (Nat.le_of_ble_eq_true rfl) (Nat.le_of_ble_eq_true rfl) (rcv_V rfl (congrArg Prod.fst (kf_53 X.1))) rfl ?_
    refine wp_aload rfl rfl ?_
    refine wp_iload rfl rfl ?_
    refine wp_putI (j := 6) rfl (congrArg Prod.fst (kf_53 X.1)) rfl rfl rfl ?_
    refine wp_iload rfl rfl ?_
    refine wp_iret rfl rfl ?_
    show Wp X _ 212 68 [vr 53, vi x1, vi x2] [vi x2] _ _
    exact wp_iret rfl rfl H
  · replace H := H.2 c1
    refine wp_iload rfl rfl ?_
    refine wp_aload rfl rfl ?_
    refine wp_getI (j := 4) rfl (congrArg Prod.fst (kf_53 X.1)) rfl ?_
    refine wp_icge (tn := 21) rfl rfl (fun c2 => ?_) (fun c2 => ?_)
    · replace H := H.1 c2
      refine wp_iconst rfl ?_
      refine wp_iret rfl rfl ?_
      show Wp X _ 212 5 [vr 53, vi x1, vi x2] [vi (-1)] _ _
      refine wp_look (tn := 63) rfl rfl ?_
      refine wp_aload rfl rfl ?_
      refine wp_iload rfl rfl ?_
      refine wp_call (k := 216) (ρ2 := 0) (L2 := [vr 53, vi x2]) rfl rfl rfl (Nat.le_of_ble_eq_true rfl) (Nat.le_of_ble_eq_true rfl) (Nat.le_of_ble_eq_true rfl) (rcv_V rfl (congrArg Prod.fst (kf_53 X.1))) rfl ?_
      refine wp_aload rfl rfl ?_
      refine wp_iload rfl rfl ?_
      refine wp_putI (j := 6) rfl (congrArg Prod.fst (kf_53 X.1)) rfl rfl rfl ?_
      refine wp_iload rfl rfl ?_
      refine wp_iret rfl rfl ?_
      show Wp X _ 212 68 [vr 53, vi x1, vi x2] [vi x2] _ _
      exact wp_iret rfl rfl H
    · replace H := H.2 c2
      refine wp_aload rfl rfl ?_
      refine wp_getR (r := 53) rfl (congrArg Prod.fst (kf_53 X.1)) rfl ?_
      refine wp_iload rfl rfl ?_
      have g3 := H.1
      replace H := H.2
      refine wp_iaload rfl (kf_54 X.1) g3 ?_
      refine wp_goto (tn := 22) rfl rfl ?_
      refine wp_iret rfl rfl ?_
      show Wp X _ 212 5 [vr 53, vi x1, vi x2] [vi (h 54 x2)] _ _
      by_cases c4 : (h 54 x2) = 97
      · replace H := H.1 c4
        refine wp_look (tn := 55) rfl (by rw [c4]; rfl) ?_
        refine wp_aload rfl rfl ?_
        refine wp_iload rfl rfl ?_
        refine wp_iload rfl rfl ?_
        refine wp_iconst rfl ?_
        exact wp_call (k := 213) (ρ2 := 2) (L2 := [vr 53, vi x1, vi x2, vi 3, vu]) rfl rfl rfl (Nat.le_of_ble_eq_true rfl) (Nat.le_of_ble_eq_true rfl) (Nat.le_of_ble_eq_true rfl) (rcv_V rfl (congrArg Prod.fst (kf_53 X.1))) rfl H
      replace H := H.2 c4
      by_cases c5 : (h 54 x2) = 114
      · replace H := H.1 c5
        refine wp_look (tn := 47) rfl (by rw [c5]; rfl) ?_
        refine wp_aload rfl rfl ?_
        refine wp_iload rfl rfl ?_
        refine wp_iload rfl rfl ?_
        refine wp_iconst rfl ?_
        exact wp_call (k := 213) (ρ2 := 2) (L2 := [vr 53, vi x1, vi x2, vi 2, vu]) rfl rfl rfl (Nat.le_of_ble_eq_true rfl) (Nat.le_of_ble_eq_true rfl) (Nat.le_of_ble_eq_true rfl) (rcv_V rfl (congrArg Prod.fst (kf_53 X.1))) rfl H
      replace H := H.2 c5
      by_cases c6 : (h 54 x2) = 122
      · replace H := H.1 c6
        refine wp_look (tn := 40) rfl (by rw [c6]; rfl) ?_
        refine wp_aload rfl rfl ?_
        refine wp_iload rfl rfl ?_
        refine wp_iload rfl rfl ?_
        exact wp_call (k := 214) (ρ2 := 2) (L2 := [vr 53, vi x1, vi x2, vu, vu, vu]) rfl rfl rfl (Nat.le_of_ble_eq_true rfl) (Nat.le_of_ble_eq_true rfl) (Nat.le_of_ble_eq_true rfl) (rcv_V rfl (congrArg Prod.fst (kf_53 X.1))) rfl H
      replace H := H.2 c6
      refine wp_look (tn := 63) rfl (by show (lsw [(97, 55), (114, 47), (122, 40)] 63 (h 54 x2)).toNat = 63; simp only [lsw]; rw [if_neg c4, if_neg c5, if_neg c6]; rfl) ?_
      refine wp_aload rfl rfl ?_
      refine wp_iload rfl rfl ?_
      refine wp_call (k := 216) (ρ2 := 0) (L2 := [vr 53, vi x2]) rfl rfl rfl (Nat.le_of_ble_eq_true rfl) (Nat.le_of_ble_eq_true rfl) (Nat.le_of_ble_eq_true rfl) (rcv_V rfl (congrArg Prod.fst (kf_53 X.1))) rfl ?_
      refine wp_aload rfl rfl ?_
      refine wp_iload rfl rfl ?_
      refine wp_putI (j := 6) rfl (congrArg Prod.fst (kf_53 X.1)) rfl rfl rfl ?_
      refine wp_iload rfl rfl ?_
      refine wp_iret rfl rfl ?_
      show Wp X _ 212 68 [vr 53, vi x1, vi x2] [vi x2] _ _
      exact wp_iret rfl rfl H
/-- RuleText.readRule(II)I, from 46 -/
theorem S212_53_46 {X : Nat × (Int → Int)} {h : HP} {Q : bQ} (zx0 : aV) (zx1 : aV) (zx2 : aV) (s0 : Int) (H : Q (some (vi s0)) h) : Wp X 3 212 46 [zx0, zx1, zx2] [vi s0] h Q := by
  exact wp_iret rfl rfl H
/-- RuleText.readRule(II)I, from 54 -/
theorem S212_53_54 {X : Nat × (Int → Int)} {h : HP} {Q : bQ} (zx0 : aV) (zx1 : aV) (zx2 : aV) (s0 : Int) (H : Q (some (vi s0)) h) : Wp X 3 212 54 [zx0, zx1, zx2] [vi s0] h Q := by
  exact wp_iret rfl rfl H
/-- RuleText.readRule(II)I, from 62 -/
theorem S212_53_62 {X : Nat × (Int → Int)} {h : HP} {Q : bQ} (zx0 : aV) (zx1 : aV) (zx2 : aV) (s0 : Int) (H : Q (some (vi s0)) h) : Wp X 3 212 62 [zx0, zx1, zx2] [vi s0] h Q := by
  exact wp_iret rfl rfl H
/-- RuleText.readRunRule(III)I, from 0 -/
theorem S213_45_0 {X : Nat × (Int → Int)} {h : HP} {Q : bQ} (x1 : Int) (x2 : Int) (x3 : Int) (H : ((R32 (x2 + 1)) ∧ (((x2 + 1) < 0 → (((-49) < x3 → Q (some (vi (x2 + 1))) (upd2 h 45 6 (x2 + 1))) ∧ (x3 ≤ (-49) → (((-49) < (h 45 8) → ((x1 < 0 → ((R32 (x2 + 2)) ∧ Q (some (vi (x2 + 2))) (upd2 h 45 8 (-49)))) ∧ (0 ≤ x1 → ((8 ≤ x1 → ((R32 (x2 + 2)) ∧ Q (some (vi (x2 + 2))) (upd2 h 45 8 (-49)))) ∧ (x1 < 8 → ((R32 (x2 + 2)) ∧ Q (some (vi (x2 + 2))) (upd2 (upd2 (upd2 h 45 8 (-49)) 47 x1 (-1)) 48 x1 (-49)))))))) ∧ ((h 45 8) ≤ (-49) → ((x1 < 0 → ((R32 (x2 + 2)) ∧ Q (some (vi (x2 + 2))) (upd2 h 45 8 (h 45 8)))) ∧ (0 ≤ x1 → ((8 ≤ x1 → ((R32 (x2 + 2)) ∧ Q (some (vi (x2 + 2))) (upd2 h 45 8 (h 45 8)))) ∧ (x1 < 8 → ((R32 (x2 + 2)) ∧ Q (some (vi (x2 + 2))) (upd2 (upd2 (upd2 h 45 8 (h 45 8)) 47 x1 (-1)) 48 x1 (-49)))))))))))) ∧ (0 ≤ (x2 + 1) → (((h 45 4) ≤ (x2 + 1) → (((-49) < x3 → Q (some (vi (x2 + 1))) (upd2 h 45 6 (x2 + 1))) ∧ (x3 ≤ (-49) → ((x2 < 0 → (((-49) < (h 45 8) → ((x1 < 0 → Q (some (vi (x2 + 2))) (upd2 h 45 8 (-49))) ∧ (0 ≤ x1 → ((8 ≤ x1 → Q (some (vi (x2 + 2))) (upd2 h 45 8 (-49))) ∧ (x1 < 8 → Q (some (vi (x2 + 2))) (upd2 (upd2 (upd2 h 45 8 (-49)) 47 x1 (-1)) 48 x1 (-49))))))) ∧ ((h 45 8) ≤ (-49) → ((x1 < 0 → Q (some (vi (x2 + 2))) (upd2 h 45 8 (h 45 8))) ∧ (0 ≤ x1 → ((8 ≤ x1 → Q (some (vi (x2 + 2))) (upd2 h 45 8 (h 45 8))) ∧ (x1 < 8 → Q (some (vi (x2 + 2))) (upd2 (upd2 (upd2 h 45 8 (h 45 8)) 47 x1 (-1)) 48 x1 (-49))))))))) ∧ (0 ≤ x2 → (((h 45 4) ≤ x2 → (((-49) < (h 45 8) → ((x1 < 0 → ((R32 (x2 + 2)) ∧ Q (some (vi (x2 + 2))) (upd2 h 45 8 (-49)))) ∧ (0 ≤ x1 → ((8 ≤ x1 → ((R32 (x2 + 2)) ∧ Q (some (vi (x2 + 2))) (upd2 h 45 8 (-49)))) ∧ (x1 < 8 → ((R32 (x2 + 2)) ∧ Q (some (vi (x2 + 2))) (upd2 (upd2 (upd2 h 45 8 (-49)) 47 x1 (-1)) 48 x1 (-49)))))))) ∧ ((h 45 8) ≤ (-49) → ((x1 < 0 → ((R32 (x2 + 2)) ∧ Q (some (vi (x2 + 2))) (upd2 h 45 8 (h 45 8)))) ∧ (0 ≤ x1 → ((8 ≤ x1 → ((R32 (x2 + 2)) ∧ Q (some (vi (x2 + 2))) (upd2 h 45 8 (h 45 8)))) ∧ (x1 < 8 → ((R32 (x2 + 2)) ∧ Q (some (vi (x2 + 2))) (upd2 (upd2 (upd2 h 45 8 (h 45 8)) 47 x1 (-1)) 48 x1 (-49)))))))))) ∧ (x2 < (h 45 4) → ((0 ≤ x2 ∧ x2 < 50) ∧ (((h 46 x2) ≠ 114 → (((-49) < (h 45 8) → ((x1 < 0 → Q (some (vi (x2 + 2))) (upd2 h 45 8 (-49))) ∧ (0 ≤ x1 → ((8 ≤ x1 → Q (some (vi (x2 + 2))) (upd2 h 45 8 (-49))) ∧ (x1 < 8 → Q (some (vi (x2 + 2))) (upd2 (upd2 (upd2 h 45 8 (-49)) 47 x1 (h 46 x2)) 48 x1 (-49))))))) ∧ ((h 45 8) ≤ (-49) → ((x1 < 0 → Q (some (vi (x2 + 2))) (upd2 h 45 8 (h 45 8))) ∧ (0 ≤ x1 → ((8 ≤ x1 → Q (some (vi (x2 + 2))) (upd2 h 45 8 (h 45 8))) ∧ (x1 < 8 → Q (some (vi (x2 + 2))) (upd2 (upd2 (upd2 h 45 8 (h 45 8)) 47 x1 (h 46 x2)) 48 x1 (-49))))))))) ∧ ((h 46 x2) = 114 → (((-49) < (h 45 7) → ((x1 < 0 → Q (some (vi (x2 + 2))) (upd2 h 45 7 (-49))) ∧ (0 ≤ x1 → ((8 ≤ x1 → Q (some (vi (x2 + 2))) (upd2 h 45 7 (-49))) ∧ (x1 < 8 → Q (some (vi (x2 + 2))) (upd2 (upd2 (upd2 h 45 7 (-49)) 47 x1 (h 46 x2)) 48 x1 (-49))))))) ∧ ((h 45 7) ≤ (-49) → ((x1 < 0 → Q (some (vi (x2 + 2))) (upd2 h 45 7 (h 45 7))) ∧ (0 ≤ x1 → ((8 ≤ x1 → Q (some (vi (x2 + 2))) (upd2 h 45 7 (h 45 7))) ∧ (x1 < 8 → Q (some (vi (x2 + 2))) (upd2 (upd2 (upd2 h 45 7 (h 45 7)) 47 x1 (h 46 x2)) 48 x1 (-49)))))))))))))))))) ∧ ((x2 + 1) < (h 45 4) → ((0 ≤ (x2 + 1) ∧ (x2 + 1) < 50) ∧ ((R32 ((h 46 (x2 + 1)) - 48)) ∧ ((((h 46 (x2 + 1)) - 48) < x3 → Q (some (vi (x2 + 1))) (upd2 h 45 6 (x2 + 1))) ∧ (x3 ≤ ((h 46 (x2 + 1)) - 48) → ((((h 46 (x2 + 1)) - 48) ≤ 9 → ((((h 46 (x2 + 1)) - 48) ≠ (-1) → ((x2 < 0 → ((((h 46 (x2 + 1)) - 48) < (h 45 8) → ((x1 < 0 → Q (some (vi (x2 + 2))) (upd2 h 45 8 ((h 46 (x2 + 1)) - 48))) ∧ (0 ≤ x1 → ((8 ≤ x1 → Q (some (vi (x2 + 2))) (upd2 h 45 8 ((h 46 (x2 + 1)) - 48))) ∧ (x1 < 8 → Q (some (vi (x2 + 2))) (upd2 (upd2 (upd2 h 45 8 ((h 46 (x2 + 1)) - 48)) 47 x1 (-1)) 48 x1 ((h 46 (x2 + 1)) - 48))))))) ∧ ((h 45 8) ≤ ((h 46 (x2 + 1)) - 48) → ((x1 < 0 → Q (some (vi (x2 + 2))) (upd2 h 45 8 (h 45 8))) ∧ (0 ≤ x1 → ((8 ≤ x1 → Q (some (vi (x2 + 2))) (upd2 h 45 8 (h 45 8))) ∧ (x1 < 8 → Q (some (vi (x2 + 2))) (upd2 (upd2 (upd2 h 45 8 (h 45 8)) 47 x1 (-1)) 48 x1 ((h 46 (x2 + 1)) - 48))))))))) ∧ (0 ≤ x2 → (((h 45 4) ≤ x2 → ((((h 46 (x2 + 1)) - 48) < (h 45 8) → ((x1 < 0 → Q (some (vi (x2 + 2))) (upd2 h 45 8 ((h 46 (x2 + 1)) - 48))) ∧ (0 ≤ x1 → ((8 ≤ x1 → Q (some (vi (x2 + 2))) (upd2 h 45 8 ((h 46 (x2 + 1)) - 48))) ∧ (x1 < 8 → Q (some (vi (x2 + 2))) (upd2 (upd2 (upd2 h 45 8 ((h 46 (x2 + 1)) - 48)) 47 x1 (-1)) 48 x1 ((h 46 (x2 + 1)) - 48))))))) ∧ ((h 45 8) ≤ ((h 46 (x2 + 1)) - 48) → ((x1 < 0 → Q (some (vi (x2 + 2))) (upd2 h 45 8 (h 45 8))) ∧ (0 ≤ x1 → ((8 ≤ x1 → Q (some (vi (x2 + 2))) (upd2 h 45 8 (h 45 8))) ∧ (x1 < 8 → Q (some (vi (x2 + 2))) (upd2 (upd2 (upd2 h 45 8 (h 45 8)) 47 x1 (-1)) 48 x1 ((h 46 (x2 + 1)) - 48))))))))) ∧ (x2 < (h 45 4) → (((h 46 x2) ≠ 114 → ((((h 46 (x2 + 1)) - 48) < (h 45 8) → ((x1 < 0 → Q (some (vi (x2 + 2))) (upd2 h 45 8 ((h 46 (x2 + 1)) - 48))) ∧ (0 ≤ x1 → ((8 ≤ x1 → Q (some (vi (x2 + 2))) (upd2 h 45 8 ((h 46 (x2 + 1)) - 48))) ∧ (x1 < 8 → Q (some (vi (x2 + 2))) (upd2 (upd2 (upd2 h 45 8 ((h 46 (x2 + 1)) - 48)) 47 x1 (h 46 x2)) 48 x1 ((h 46 (x2 + 1)) - 48))))))) ∧ ((h 45 8) ≤ ((h 46 (x2 + 1)) - 48) → ((x1 < 0 → Q (some (vi (x2 + 2))) (upd2 h 45 8 (h 45 8))) ∧ (0 ≤ x1 → ((8 ≤ x1 → Q (some (vi (x2 + 2))) (upd2 h 45 8 (h 45 8))) ∧ (x1 < 8 → Q (some (vi (x2 + 2))) (upd2 (upd2 (upd2 h 45 8 (h 45 8)) 47 x1 (h 46 x2)) 48 x1 ((h 46 (x2 + 1)) - 48))))))))) ∧ ((h 46 x2) = 114 → ((((h 46 (x2 + 1)) - 48) < (h 45 7) → ((x1 < 0 → Q (some (vi (x2 + 2))) (upd2 h 45 7 ((h 46 (x2 + 1)) - 48))) ∧ (0 ≤ x1 → ((8 ≤ x1 → Q (some (vi (x2 + 2))) (upd2 h 45 7 ((h 46 (x2 + 1)) - 48))) ∧ (x1 < 8 → Q (some (vi (x2 + 2))) (upd2 (upd2 (upd2 h 45 7 ((h 46 (x2 + 1)) - 48)) 47 x1 (h 46 x2)) 48 x1 ((h 46 (x2 + 1)) - 48))))))) ∧ ((h 45 7) ≤ ((h 46 (x2 + 1)) - 48) → ((x1 < 0 → Q (some (vi (x2 + 2))) (upd2 h 45 7 (h 45 7))) ∧ (0 ≤ x1 → ((8 ≤ x1 → Q (some (vi (x2 + 2))) (upd2 h 45 7 (h 45 7))) ∧ (x1 < 8 → Q (some (vi (x2 + 2))) (upd2 (upd2 (upd2 h 45 7 (h 45 7)) 47 x1 (h 46 x2)) 48 x1 ((h 46 (x2 + 1)) - 48))))))))))))))) ∧ (((h 46 (x2 + 1)) - 48) = (-1) → Q (some (vi (x2 + 1))) (upd2 h 45 6 (x2 + 1))))) ∧ (9 < ((h 46 (x2 + 1)) - 48) → Q (some (vi (x2 + 1))) (upd2 h 45 6 (x2 + 1)))))))))))))) : Wp X 2 213 0 [vr 45, vi x1, vi x2, vi x3, vu] [] h Q := by
  refine wp_aload rfl rfl ?_
  refine wp_iload rfl rfl ?_
  refine wp_iconst rfl ?_
  refine wp_iadd rfl ?_
  have g1 := H.1
  replace H := H.2
  refine Wp.topI (y := (x2 + 1)) (w32_I g1) ?_
  refine wp_iload rfl rfl ?_
  refine wp_iconst rfl ?_
  refine wp_call (k := 217) (ρ2 := 1) (L2 := [vr 45, vi (x2 + 1), vi x3, vi 9, vu]) rfl rfl rfl (Nat.le_of_ble_eq_true rfl) (Nat.le_of_ble_eq_true rfl) (Nat.le_of_ble_eq_true rfl) (rcv_V rfl (congrArg Prod.fst (kf_45 X.1))) rfl ?_
  refine wp_aload rfl rfl ?_
  refine wp_iload rfl rfl ?_
  refine wp_call (k := 218) (ρ2 := 0) (L2 := [vr 45, vi (x2 + 1)]) rfl rfl rfl (Nat.le_of_ble_eq_true rfl) (Nat.le_of_ble_eq_true rfl) (Nat.le_of_ble_eq_true rfl) (rcv_V rfl (congrArg Prod.fst (kf_45 X.1))) rfl ?_
  refine wp_iload rfl rfl ?_
  refine wp_iflt (tn := 21) rfl rfl (fun c2 => ?_) (fun c2 => ?_)
  · replace H := H.1 c2
    refine wp_iconst rfl ?_
    refine wp_iret rfl rfl ?_
    show Wp X _ 217 5 [vr 45, vi (x2 + 1), vi x3, vi 9, vu] [vi (-1)] _ _
    refine wp_iconst rfl ?_
    refine wp_isub rfl ?_
    refine Wp.topI (y := (-49)) (by decide) ?_
    refine wp_istore (L2 := [vr 45, vi (x2 + 1), vi x3, vi 9, vi (-49)]) rfl (Nat.le_of_ble_eq_true rfl) rfl ?_
    refine wp_iload rfl rfl ?_
    refine wp_iload rfl rfl ?_
    refine wp_iclt (tn := 22) rfl rfl (fun c3 => ?_) (fun c3 => ?_)
    · replace H := H.1 c3
      refine wp_iconst rfl ?_
      refine wp_goto (tn := 28) rfl rfl ?_
      refine wp_iret rfl rfl ?_
      show Wp X _ 213 10 [vr 45, vi x1, vi x2, vi x3, vu] [vi (-1)] _ _
      refine wp_istore (L2 := [vr 45, vi x1, vi x2, vi x3, vi (-1)]) rfl (Nat.le_of_ble_eq_true rfl) rfl ?_
      refine wp_iload rfl rfl ?_
      refine wp_iconst rfl ?_
      refine wp_icneF (tn := 26) rfl rfl (by decide) ?_
      refine wp_aload rfl rfl ?_
      refine wp_iload rfl rfl ?_
      refine wp_iconst rfl ?_
      refine wp_iadd rfl ?_
      refine Wp.topI (y := (x2 + 1)) (w32_I g1) ?_
      refine wp_call (k := 216) (ρ2 := 0) (L2 := [vr 45, vi (x2 + 1)]) rfl rfl rfl (Nat.le_of_ble_eq_true rfl) (Nat.le_of_ble_eq_true rfl) (Nat.le_of_ble_eq_true rfl) (rcv_V rfl (congrArg Prod.fst (kf_45 X.1))) rfl ?_
      refine wp_aload rfl rfl ?_
      refine wp_iload rfl rfl ?_
      refine wp_putI (j := 6) rfl (congrArg Prod.fst (kf_45 X.1)) rfl rfl rfl ?_
      refine wp_iload rfl rfl ?_
      refine wp_iret rfl rfl ?_
      show Wp X _ 213 25 [vr 45, vi x1, vi x2, vi x3, vi (-1)] [vi (x2 + 1)] _ _
      exact wp_iret rfl rfl H
    · replace H := H.2 c3
      refine wp_iload rfl rfl ?_
      refine wp_iload rfl rfl ?_
      refine wp_icleT (tn := 26) rfl rfl (by decide) ?_
      refine wp_iload rfl rfl ?_
      refine wp_iret rfl rfl ?_
      show Wp X _ 213 10 [vr 45, vi x1, vi x2, vi x3, vu] [vi (-49)] _ _
      refine wp_istore (L2 := [vr 45, vi x1, vi x2, vi x3, vi (-49)]) rfl (Nat.le_of_ble_eq_true rfl) rfl ?_
      refine wp_iload rfl rfl ?_
      refine wp_iconst rfl ?_
      refine wp_icneT (tn := 26) rfl rfl (by decide) ?_
      refine wp_aload rfl rfl ?_
      refine wp_iload rfl rfl ?_
      refine wp_call (k := 218) (ρ2 := 0) (L2 := [vr 45, vi x2]) rfl rfl rfl (Nat.le_of_ble_eq_true rfl) (Nat.le_of_ble_eq_true rfl) (Nat.le_of_ble_eq_true rfl) (rcv_V rfl (congrArg Prod.fst (kf_45 X.1))) rfl ?_
      refine wp_iload rfl rfl ?_
      refine wp_ifltT (tn := 21) rfl rfl (by clear H; omega) ?_
      refine wp_iconst rfl ?_
      refine wp_iret rfl rfl ?_
      show Wp X _ 213 31 [vr 45, vi x1, vi x2, vi x3, vi (-49)] [vi (-1)] _ _
      refine wp_iconst rfl ?_
      refine wp_icneT (tn := 52) rfl rfl (by decide) ?_
      refine wp_aload rfl rfl ?_
      refine wp_aload rfl rfl ?_
      refine wp_getI (j := 8) rfl (congrArg Prod.fst (kf_45 X.1)) rfl ?_
      refine wp_iload rfl rfl ?_
      refine wp_call (k := 253) (ρ2 := 0) (L2 := [vi (h 45 8), vi (-49)]) rfl rfl rfl (Nat.le_of_ble_eq_true rfl) (Nat.le_of_ble_eq_true rfl) (Nat.le_of_ble_eq_true rfl) (rcv_S rfl) rfl ?_
      refine wp_iload rfl rfl ?_
      refine wp_iload rfl rfl ?_
      refine wp_icgt (tn := 9) rfl rfl (fun c4 => ?_) (fun c4 => ?_)
      · replace H := H.1 c4
        refine wp_iload rfl rfl ?_
        refine wp_iret rfl rfl ?_
        show Wp X _ 213 62 [vr 45, vi x1, vi x2, vi x3, vi (-49)] [vi (-49), vr 45] _ _
        refine wp_putI (j := 8) rfl (congrArg Prod.fst (kf_45 X.1)) rfl rfl rfl ?_
        refine wp_aload rfl rfl ?_
        refine wp_iload rfl rfl ?_
        refine wp_aload rfl rfl ?_
        refine wp_iload rfl rfl ?_
        refine wp_call (k := 218) (ρ2 := 0) (L2 := [vr 45, vi x2]) rfl rfl rfl (Nat.le_of_ble_eq_true rfl) (Nat.le_of_ble_eq_true rfl) (Nat.le_of_ble_eq_true rfl) (rcv_V rfl (congrArg Prod.fst (kf_45 X.1))) rfl ?_
        refine wp_iload rfl rfl ?_
        refine wp_ifltT (tn := 21) rfl rfl (by clear H; omega) ?_
        refine wp_iconst rfl ?_
        refine wp_iret rfl rfl ?_
        show Wp X _ 213 72 [vr 45, vi x1, vi x2, vi x3, vi (-49)] [vi (-1), vi x1, vr 45] _ _
        refine wp_iload rfl rfl ?_
        refine wp_call (k := 215) (ρ2 := 0) (L2 := [vr 45, vi x1, vi (-1), vi (-49)]) rfl rfl rfl (Nat.le_of_ble_eq_true rfl) (Nat.le_of_ble_eq_true rfl) (Nat.le_of_ble_eq_true rfl) (rcv_V rfl (congrArg Prod.fst (kf_45 X.1))) rfl ?_
        refine wp_iload rfl rfl ?_
        refine wp_iflt (tn := 24) rfl rfl (fun c5 => ?_) (fun c5 => ?_)
        · replace H := H.1 c5
          refine wp_vret rfl rfl ?_
          show Wp X _ 213 77 [vr 45, vi x1, vi x2, vi x3, vi (-49)] [] _ _
          refine wp_iload rfl rfl ?_
          refine wp_iconst rfl ?_
          refine wp_iadd rfl ?_
          have g6 := H.1
          replace H := H.2
          refine Wp.topI (y := (x2 + 2)) (w32_I g6) ?_
          exact wp_iret rfl rfl H
        · replace H := H.2 c5
          refine wp_iload rfl rfl ?_
          refine wp_iconst rfl ?_
          refine wp_icge (tn := 24) rfl rfl (fun c7 => ?_) (fun c7 => ?_)
          · replace H := H.1 c7
            refine wp_vret rfl rfl ?_
            show Wp X _ 213 77 [vr 45, vi x1, vi x2, vi x3, vi (-49)] [] _ _
            refine wp_iload rfl rfl ?_
            refine wp_iconst rfl ?_
            refine wp_iadd rfl ?_
            have g8 := H.1
            replace H := H.2
            refine Wp.topI (y := (x2 + 2)) (w32_I g8) ?_
            exact wp_iret rfl rfl H
          · replace H := H.2 c7
            refine wp_aload rfl rfl ?_
            refine wp_getR (r := 46) rfl (congrArg Prod.fst (kf_45 X.1)) rfl ?_
            refine wp_iload rfl rfl ?_
            refine wp_iload rfl rfl ?_
            refine wp_iastore rfl (kf_47 X.1) ⟨c5, c7⟩ ?_
            refine wp_aload rfl rfl ?_
            refine wp_getR (r := 47) rfl (congrArg Prod.fst (kf_45 X.1)) rfl ?_
            refine wp_iload rfl rfl ?_
            refine wp_iload rfl rfl ?_
            refine wp_iastore rfl (kf_48 X.1) ⟨c5, c7⟩ ?_
            refine wp_vret rfl rfl ?_
            show Wp X _ 213 77 [vr 45, vi x1, vi x2, vi x3, vi (-49)] [] _ _
            refine wp_iload rfl rfl ?_
            refine wp_iconst rfl ?_
            refine wp_iadd rfl ?_
            have g9 := H.1
            replace H := H.2
            refine Wp.topI (y := (x2 + 2)) (w32_I g9) ?_
            exact wp_iret rfl rfl H
      · replace H := H.2 c4
        refine wp_iload rfl rfl ?_
        refine wp_goto (tn := 10) rfl rfl ?_
        refine wp_iret rfl rfl ?_
        show Wp X _ 213 62 [vr 45, vi x1, vi x2, vi x3, vi (-49)] [vi (h 45 8), vr 45] _ _
        refine wp_putI (j := 8) rfl (congrArg Prod.fst (kf_45 X.1)) rfl rfl rfl ?_
        refine wp_aload rfl rfl ?_
        refine wp_iload rfl rfl ?_
        refine wp_aload rfl rfl ?_
        refine wp_iload rfl rfl ?_
        refine wp_call (k := 218) (ρ2 := 0) (L2 := [vr 45, vi x2]) rfl rfl rfl (Nat.le_of_ble_eq_true rfl) (Nat.le_of_ble_eq_true rfl) (Nat.le_of_ble_eq_true rfl) (rcv_V rfl (congrArg Prod.fst (kf_45 X.1))) rfl ?_
        refine wp_iload rfl rfl ?_
        refine wp_ifltT (tn := 21) rfl rfl (by clear H; omega) ?_
        refine wp_iconst rfl ?_
        refine wp_iret rfl rfl ?_
        show Wp X _ 213 72 [vr 45, vi x1, vi x2, vi x3, vi (-49)] [vi (-1), vi x1, vr 45] _ _
        refine wp_iload rfl rfl ?_
        refine wp_call (k := 215) (ρ2 := 0) (L2 := [vr 45, vi x1, vi (-1), vi (-49)]) rfl rfl rfl (Nat.le_of_ble_eq_true rfl) (Nat.le_of_ble_eq_true rfl) (Nat.le_of_ble_eq_true rfl) (rcv_V rfl (congrArg Prod.fst (kf_45 X.1))) rfl ?_
        refine wp_iload rfl rfl ?_
        refine wp_iflt (tn := 24) rfl rfl (fun c10 => ?_) (fun c10 => ?_)
        · replace H := H.1 c10
          refine wp_vret rfl rfl ?_
          show Wp X _ 213 77 [vr 45, vi x1, vi x2, vi x3, vi (-49)] [] _ _
          refine wp_iload rfl rfl ?_
          refine wp_iconst rfl ?_
          refine wp_iadd rfl ?_
          have g11 := H.1
          replace H := H.2
          refine Wp.topI (y := (x2 + 2)) (w32_I g11) ?_
          exact wp_iret rfl rfl H
        · replace H := H.2 c10
          refine wp_iload rfl rfl ?_
          refine wp_iconst rfl ?_
          refine wp_icge (tn := 24) rfl rfl (fun c12 => ?_) (fun c12 => ?_)
          · replace H := H.1 c12
            refine wp_vret rfl rfl ?_
            show Wp X _ 213 77 [vr 45, vi x1, vi x2, vi x3, vi (-49)] [] _ _
            refine wp_iload rfl rfl ?_
            refine wp_iconst rfl ?_
            refine wp_iadd rfl ?_
            have g13 := H.1
            replace H := H.2
            refine Wp.topI (y := (x2 + 2)) (w32_I g13) ?_
            exact wp_iret rfl rfl H
          · replace H := H.2 c12
            refine wp_aload rfl rfl ?_
            refine wp_getR (r := 46) rfl (congrArg Prod.fst (kf_45 X.1)) rfl ?_
            refine wp_iload rfl rfl ?_
            refine wp_iload rfl rfl ?_
            refine wp_iastore rfl (kf_47 X.1) ⟨c10, c12⟩ ?_
            refine wp_aload rfl rfl ?_
            refine wp_getR (r := 47) rfl (congrArg Prod.fst (kf_45 X.1)) rfl ?_
            refine wp_iload rfl rfl ?_
            refine wp_iload rfl rfl ?_
            refine wp_iastore rfl (kf_48 X.1) ⟨c10, c12⟩ ?_
            refine wp_vret rfl rfl ?_
            show Wp X _ 213 77 [vr 45, vi x1, vi x2, vi x3, vi (-49)] [] _ _
            refine wp_iload rfl rfl ?_
            refine wp_iconst rfl ?_
            refine wp_iadd rfl ?_
            have g14 := H.1
            replace H := H.2
            refine Wp.topI (y := (x2 + 2)) (w32_I g14) ?_
            exact wp_iret rfl rfl H
  · replace H := H.2 c2
    refine wp_iload rfl rfl ?_
    refine wp_aload rfl rfl ?_
    refine wp_getI (j := 4) rfl (congrArg Prod.fst (kf_45 X.1)) rfl ?_
    refine wp_icge (tn := 21) rfl rfl (fun c15 => ?_) (fun c15 => ?_)
    · replace H := H.1 c15
      refine wp_iconst rfl ?_
      refine wp_iret rfl rfl ?_
      show Wp X _ 217 5 [vr 45, vi (x2 + 1), vi x3, vi 9, vu] [vi (-1)] _ _
      refine wp_iconst rfl ?_
      refine wp_isub rfl ?_
      refine Wp.topI (y := (-49)) (by decide) ?_
      refine wp_istore (L2 := [vr 45, vi (x2 + 1), vi x3, vi 9, vi (-49)]) rfl (Nat.le_of_ble_eq_true rfl) rfl ?_
      refine wp_iload rfl rfl ?_
      refine wp_iload rfl rfl ?_
      refine wp_iclt (tn := 22) rfl rfl (fun c16 => ?_) (fun c16 => ?_)
      · replace H := H.1 c16
        refine wp_iconst rfl ?_
        refine wp_goto (tn := 28) rfl rfl ?_
        refine wp_iret rfl rfl ?_
        show Wp X _ 213 10 [vr 45, vi x1, vi x2, vi x3, vu] [vi (-1)] _ _
        refine wp_istore (L2 := [vr 45, vi x1, vi x2, vi x3, vi (-1)]) rfl (Nat.le_of_ble_eq_true rfl) rfl ?_
        refine wp_iload rfl rfl ?_
        refine wp_iconst rfl ?_
        refine wp_icneF (tn := 26) rfl rfl (by decide) ?_
        refine wp_aload rfl rfl ?_
        refine wp_iload rfl rfl ?_
        refine wp_iconst rfl ?_
        refine wp_iadd rfl ?_
        refine Wp.topI (y := (x2 + 1)) (w32_I g1) ?_
        refine wp_call (k := 216) (ρ2 := 0) (L2 := [vr 45, vi (x2 + 1)]) rfl rfl rfl (Nat.le_of_ble_eq_true rfl) (Nat.le_of_ble_eq_true rfl) (Nat.le_of_ble_eq_true rfl) (rcv_V rfl (congrArg Prod.fst (kf_45 X.1))) rfl ?_
        refine wp_aload rfl rfl ?_
        refine wp_iload rfl rfl ?_
        refine wp_putI (j := 6) rfl (congrArg Prod.fst (kf_45 X.1)) rfl rfl rfl ?_
        refine wp_iload rfl rfl ?_
        refine wp_iret rfl rfl ?_
        show Wp X _ 213 25 [vr 45, vi x1, vi x2, vi x3, vi (-1)] [vi (x2 + 1)] _ _
        exact wp_iret rfl rfl H
      · replace H := H.2 c16
        refine wp_iload rfl rfl ?_
        refine wp_iload rfl rfl ?_
        refine wp_icleT (tn := 26) rfl rfl (by decide) ?_
        refine wp_iload rfl rfl ?_
        refine wp_iret rfl rfl ?_
        show Wp X _ 213 10 [vr 45, vi x1, vi x2, vi x3, vu] [vi (-49)] _ _
        refine wp_istore (L2 := [vr 45, vi x1, vi x2, vi x3, vi (-49)]) rfl (Nat.le_of_ble_eq_true rfl) rfl ?_
        refine wp_iload rfl rfl ?_
        refine wp_iconst rfl ?_
        refine wp_icneT (tn := 26) rfl rfl (by decide) ?_
        refine wp_aload rfl rfl ?_
        refine wp_iload rfl rfl ?_
        refine wp_call (k := 218) (ρ2 := 0) (L2 := [vr 45, vi x2]) rfl rfl rfl (Nat.le_of_ble_eq_true rfl) (Nat.le_of_ble_eq_true rfl) (Nat.le_of_ble_eq_true rfl) (rcv_V rfl (congrArg Prod.fst (kf_45 X.1))) rfl ?_
        refine wp_iload rfl rfl ?_
        refine wp_iflt (tn := 21) rfl rfl (fun c17 => ?_) (fun c17 => ?_)
        · replace H := H.1 c17
          refine wp_iconst rfl ?_
          refine wp_iret rfl rfl ?_
          show Wp X _ 213 31 [vr 45, vi x1, vi x2, vi x3, vi (-49)] [vi (-1)] _ _
          refine wp_iconst rfl ?_
          refine wp_icneT (tn := 52) rfl rfl (by decide) ?_
          refine wp_aload rfl rfl ?_
          refine wp_aload rfl rfl ?_
          refine wp_getI (j := 8) rfl (congrArg Prod.fst (kf_45 X.1)) rfl ?_
          refine wp_iload rfl rfl ?_
          refine wp_call (k := 253) (ρ2 := 0) (L2 := [vi (h 45 8), vi (-49)]) rfl rfl rfl (Nat.le_of_ble_eq_true rfl) (Nat.le_of_ble_eq_true rfl) (Nat.le_of_ble_eq_true rfl) (rcv_S rfl) rfl ?_
          refine wp_iload rfl rfl ?_
          refine wp_iload rfl rfl ?_
          refine wp_icgt (tn := 9) rfl rfl (fun c18 => ?_) (fun c18 => ?_)
          · replace H := H.1 c18
            refine wp_iload rfl rfl ?_
            refine wp_iret rfl rfl ?_
            show Wp X _ 213 62 [vr 45, vi x1, vi x2, vi x3, vi (-49)] [vi (-49), vr 45] _ _
            refine wp_putI (j := 8) rfl (congrArg Prod.fst (kf_45 X.1)) rfl rfl rfl ?_
            refine wp_aload rfl rfl ?_
            refine wp_iload rfl rfl ?_
            refine wp_aload rfl rfl ?_
            refine wp_iload rfl rfl ?_
            refine wp_call (k := 218) (ρ2 := 0) (L2 := [vr 45, vi x2]) rfl rfl rfl (Nat.le_of_ble_eq_true rfl) (Nat.le_of_ble_eq_true rfl) (Nat.le_of_ble_eq_true rfl) (rcv_V rfl (congrArg Prod.fst (kf_45 X.1))) rfl ?_
            refine wp_iload rfl rfl ?_
            refine wp_ifltT (tn := 21) rfl rfl c17 ?_
            refine wp_iconst rfl ?_
            refine wp_iret rfl rfl ?_
            show Wp X _ 213 72 [vr 45, vi x1, vi x2, vi x3, vi (-49)] [vi (-1), vi x1, vr 45] _ _
            refine wp_iload rfl rfl ?_
            refine wp_call (k := 215) (ρ2 := 0) (L2 := [vr 45, vi x1, vi (-1), vi (-49)]) rfl rfl rfl (Nat.le_of_ble_eq_true rfl) (Nat.le_of_ble_eq_true rfl) (Nat.le_of_ble_eq_true rfl) (rcv_V rfl (congrArg Prod.fst (kf_45 X.1))) rfl ?_
            refine wp_iload rfl rfl ?_
            refine wp_iflt (tn := 24) rfl rfl (fun c19 => ?_) (fun c19 => ?_)
            · replace H := H.1 c19
              refine wp_vret rfl rfl ?_
              show Wp X _ 213 77 [vr 45, vi x1, vi x2, vi x3, vi (-49)] [] _ _
              refine wp_iload rfl rfl ?_
              refine wp_iconst rfl ?_
              refine wp_iadd rfl ?_
              refine Wp.topI (y := (x2 + 2)) (w32_I (by clear H; unfold R32; omega)) ?_
              exact wp_iret rfl rfl H
            · replace H := H.2 c19
              refine wp_iload rfl rfl ?_
              refine wp_iconst rfl ?_
              refine wp_icge (tn := 24) rfl rfl (fun c20 => ?_) (fun c20 => ?_)
              · replace H := H.1 c20
                refine wp_vret rfl rfl ?_
                show Wp X _ 213 77 [vr 45, vi x1, vi x2, vi x3, vi (-49)] [] _ _
                refine wp_iload rfl rfl ?_
                refine wp_iconst rfl ?_
                refine wp_iadd rfl ?_
                refine Wp.topI (y := (x2 + 2)) (w32_I (by clear H; unfold R32; omega)) ?_
                exact wp_iret rfl rfl H
              · replace H := H.2 c20
                refine wp_aload rfl rfl ?_
                refine wp_getR (r := 46) rfl (congrArg Prod.fst (kf_45 X.1)) rfl ?_
                refine wp_iload rfl rfl ?_
                refine wp_iload rfl rfl ?_
                refine wp_iastore rfl (kf_47 X.1) ⟨c19, c20⟩ ?_
                refine wp_aload rfl rfl ?_
                refine wp_getR (r := 47) rfl (congrArg Prod.fst (kf_45 X.1)) rfl ?_
                refine wp_iload rfl rfl ?_
                refine wp_iload rfl rfl ?_
                refine wp_iastore rfl (kf_48 X.1) ⟨c19, c20⟩ ?_
                refine wp_vret rfl rfl ?_
                show Wp X _ 213 77 [vr 45, vi x1, vi x2, vi x3, vi (-49)] [] _ _
                refine wp_iload rfl rfl ?_
                refine wp_iconst rfl ?_
                refine wp_iadd rfl ?_
                refine Wp.topI (y := (x2 + 2)) (w32_I (by clear H; unfold R32; omega)) ?_
                exact wp_iret rfl rfl H
          · replace H := H.2 c18
            refine wp_iload rfl rfl ?_
            refine wp_goto (tn := 10) rfl rfl ?_
            refine wp_iret rfl rfl ?_
            show Wp X _ 213 62 [vr 45, vi x1, vi x2, vi x3, vi (-49)] [vi (h 45 8), vr 45] _ _
            refine wp_putI (j := 8) rfl (congrArg Prod.fst (kf_45 X.1)) rfl rfl rfl ?_
            refine wp_aload rfl rfl ?_
            refine wp_iload rfl rfl ?_
            refine wp_aload rfl rfl ?_
            refine wp_iload rfl rfl ?_
            refine wp_call (k := 218) (ρ2 := 0) (L2 := [vr 45, vi x2]) rfl rfl rfl (Nat.le_of_ble_eq_true rfl) (Nat.le_of_ble_eq_true rfl) (Nat.le_of_ble_eq_true rfl) (rcv_V rfl (congrArg Prod.fst (kf_45 X.1))) rfl ?_
            refine wp_iload rfl rfl ?_
            refine wp_ifltT (tn := 21) rfl rfl c17 ?_
            refine wp_iconst rfl ?_
            refine wp_iret rfl rfl ?_
            show Wp X _ 213 72 [vr 45, vi x1, vi x2, vi x3, vi (-49)] [vi (-1), vi x1, vr 45] _ _
            refine wp_iload rfl rfl ?_
            refine wp_call (k := 215) (ρ2 := 0) (L2 := [vr 45, vi x1, vi (-1), vi (-49)]) rfl rfl rfl (Nat.le_of_ble_eq_true rfl) (Nat.le_of_ble_eq_true rfl) (Nat.le_of_ble_eq_true rfl) (rcv_V rfl (congrArg Prod.fst (kf_45 X.1))) rfl ?_
            refine wp_iload rfl rfl ?_
            refine wp_iflt (tn := 24) rfl rfl (fun c21 => ?_) (fun c21 => ?_)
            · replace H := H.1 c21
              refine wp_vret rfl rfl ?_
              show Wp X _ 213 77 [vr 45, vi x1, vi x2, vi x3, vi (-49)] [] _ _
              refine wp_iload rfl rfl ?_
              refine wp_iconst rfl ?_
              refine wp_iadd rfl ?_
              refine Wp.topI (y := (x2 + 2)) (w32_I (by clear H; unfold R32; omega)) ?_
              exact wp_iret rfl rfl H
            · replace H := H.2 c21
              refine wp_iload rfl rfl ?_
              refine wp_iconst rfl ?_
              refine wp_icge (tn := 24) rfl rfl (fun c22 => ?_) (fun c22 => ?_)
              · replace H := H.1 c22
                refine wp_vret rfl rfl ?_
                show Wp X _ 213 77 [vr 45, vi x1, vi x2, vi x3, vi (-49)] [] _ _
                refine wp_iload rfl rfl ?_
                refine wp_iconst rfl ?_
                refine wp_iadd rfl ?_
                refine Wp.topI (y := (x2 + 2)) (w32_I (by clear H; unfold R32; omega)) ?_
                exact wp_iret rfl rfl H
              · replace H := H.2 c22
                refine wp_aload rfl rfl ?_
                refine wp_getR (r := 46) rfl (congrArg Prod.fst (kf_45 X.1)) rfl ?_
                refine wp_iload rfl rfl ?_
                refine wp_iload rfl rfl ?_
                refine wp_iastore rfl (kf_47 X.1) ⟨c21, c22⟩ ?_
                refine wp_aload rfl rfl ?_
                refine wp_getR (r := 47) rfl (congrArg Prod.fst (kf_45 X.1)) rfl ?_
                refine wp_iload rfl rfl ?_
                refine wp_iload rfl rfl ?_
                refine wp_iastore rfl (kf_48 X.1) ⟨c21, c22⟩ ?_
                refine wp_vret rfl rfl ?_
                show Wp X _ 213 77 [vr 45, vi x1, vi x2, vi x3, vi (-49)] [] _ _
                refine wp_iload rfl rfl ?_
                refine wp_iconst rfl ?_
                refine wp_iadd rfl ?_
                refine Wp.topI (y := (x2 + 2)) (w32_I (by clear H; unfold R32; omega)) ?_
                exact wp_iret rfl rfl H
        · replace H := H.2 c17
          refine wp_iload rfl rfl ?_
          refine wp_aload rfl rfl ?_
          refine wp_getI (j := 4) rfl (congrArg Prod.fst (kf_45 X.1)) rfl ?_
          refine wp_icge (tn := 21) rfl rfl (fun c23 => ?_) (fun c23 => ?_)
          · replace H := H.1 c23
            refine wp_iconst rfl ?_
            refine wp_iret rfl rfl ?_
            show Wp X _ 213 31 [vr 45, vi x1, vi x2, vi x3, vi (-49)] [vi (-1)] _ _
            refine wp_iconst rfl ?_
            refine wp_icneT (tn := 52) rfl rfl (by decide) ?_
            refine wp_aload rfl rfl ?_
            refine wp_aload rfl rfl ?_
            refine wp_getI (j := 8) rfl (congrArg Prod.fst (kf_45 X.1)) rfl ?_
            refine wp_iload rfl rfl ?_
            refine wp_call (k := 253) (ρ2 := 0) (L2 := [vi (h 45 8), vi (-49)]) rfl rfl rfl (Nat.le_of_ble_eq_true rfl) (Nat.le_of_ble_eq_true rfl) (Nat.le_of_ble_eq_true rfl) (rcv_S rfl) rfl ?_
            refine wp_iload rfl rfl ?_
            refine wp_iload rfl rfl ?_
            refine wp_icgt (tn := 9) rfl rfl (fun c24 => ?_) (fun c24 => ?_)
            · replace H := H.1 c24
              refine wp_iload rfl rfl ?_
              refine wp_iret rfl rfl ?_
              show Wp X _ 213 62 [vr 45, vi x1, vi x2, vi x3, vi (-49)] [vi (-49), vr 45] _ _
              refine wp_putI (j := 8) rfl (congrArg Prod.fst (kf_45 X.1)) rfl rfl rfl ?_
              refine wp_aload rfl rfl ?_
              refine wp_iload rfl rfl ?_
              refine wp_aload rfl rfl ?_
              refine wp_iload rfl rfl ?_
              refine wp_call (k := 218) (ρ2 := 0) (L2 := [vr 45, vi x2]) rfl rfl rfl (Nat.le_of_ble_eq_true rfl) (Nat.le_of_ble_eq_true rfl) (Nat.le_of_ble_eq_true rfl) (rcv_V rfl (congrArg Prod.fst (kf_45 X.1))) rfl ?_
              refine wp_iload rfl rfl ?_
              refine wp_ifltF (tn := 21) rfl rfl c17 ?_
              refine wp_iload rfl rfl ?_
              refine wp_aload rfl rfl ?_
              refine wp_getI (j := 4) rfl (congrArg Prod.fst (kf_45 X.1)) rfl ?_
              refine Wp.topI (y := (h 45 4)) (upd2_o (by decide)) ?_
              refine wp_icgeT (tn := 21) rfl rfl c23 ?_
              refine wp_iconst rfl ?_
              refine wp_iret rfl rfl ?_
              show Wp X _ 213 72 [vr 45, vi x1, vi x2, vi x3, vi (-49)] [vi (-1), vi x1, vr 45] _ _
              refine wp_iload rfl rfl ?_
              refine wp_call (k := 215) (ρ2 := 0) (L2 := [vr 45, vi x1, vi (-1), vi (-49)]) rfl rfl rfl (Nat.le_of_ble_eq_true rfl) (Nat.le_of_ble_eq_true rfl) (Nat.le_of_ble_eq_true rfl) (rcv_V rfl (congrArg Prod.fst (kf_45 X.1))) rfl ?_
              refine wp_iload rfl rfl ?_
              refine wp_iflt (tn := 24) rfl rfl (fun c25 => ?_) (fun c25 => ?_)
              · replace H := H.1 c25
                refine wp_vret rfl rfl ?_
                show Wp X _ 213 77 [vr 45, vi x1, vi x2, vi x3, vi (-49)] [] _ _
                refine wp_iload rfl rfl ?_
                refine wp_iconst rfl ?_
                refine wp_iadd rfl ?_
                have g26 := H.1
                replace H := H.2
                refine Wp.topI (y := (x2 + 2)) (w32_I g26) ?_
                exact wp_iret rfl rfl H
              · replace H := H.2 c25
                refine wp_iload rfl rfl ?_
                refine wp_iconst rfl ?_
                refine wp_icge (tn := 24) rfl rfl (fun c27 => ?_) (fun c27 => ?_)
                · replace H := H.1 c27
                  refine wp_vret rfl rfl ?_
                  show Wp X _ 213 77 [vr 45, vi x1, vi x2, vi x3, vi (-49)] [] _ _
                  refine wp_iload rfl rfl ?_
                  refine wp_iconst rfl ?_
                  refine wp_iadd rfl ?_
                  have g28 := H.1
                  replace H := H.2
                  refine Wp.topI (y := (x2 + 2)) (w32_I g28) ?_
                  exact wp_iret rfl rfl H
                · replace H := H.2 c27
                  refine wp_aload rfl rfl ?_
                  refine wp_getR (r := 46) rfl (congrArg Prod.fst (kf_45 X.1)) rfl ?_
                  refine wp_iload rfl rfl ?_
                  refine wp_iload rfl rfl ?_
                  refine wp_iastore rfl (kf_47 X.1) ⟨c25, c27⟩ ?_
                  refine wp_aload rfl rfl ?_
                  refine wp_getR (r := 47) rfl (congrArg Prod.fst (kf_45 X.1)) rfl ?_
                  refine wp_iload rfl rfl ?_
                  refine wp_iload rfl rfl ?_
                  refine wp_iastore rfl (kf_48 X.1) ⟨c25, c27⟩ ?_
                  refine wp_vret rfl rfl ?_
                  show Wp X _ 213 77 [vr 45, vi x1, vi x2, vi x3, vi (-49)] [] _ _
                  refine wp_iload rfl rfl ?_
                  refine wp_iconst rfl ?_
                  refine wp_iadd rfl ?_
                  have g29 := H.1
                  replace H := H.2
                  refine Wp.topI (y := (x2 + 2)) (w32_I g29) ?_
                  exact wp_iret rfl rfl H
            · replace H := H.2 c24
              refine wp_iload rfl rfl ?_
              refine wp_goto (tn := 10) rfl rfl ?_
              refine wp_iret rfl rfl ?_
              show Wp X _ 213 62 [vr 45, vi x1, vi x2, vi x3, vi (-49)] [vi (h 45 8), vr 45] _ _
              refine wp_putI (j := 8) rfl (congrArg Prod.fst (kf_45 X.1)) rfl rfl rfl ?_
              refine wp_aload rfl rfl ?_
              refine wp_iload rfl rfl ?_
              refine wp_aload rfl rfl ?_
              refine wp_iload rfl rfl ?_
              refine wp_call (k := 218) (ρ2 := 0) (L2 := [vr 45, vi x2]) rfl rfl rfl (Nat.le_of_ble_eq_true rfl) (Nat.le_of_ble_eq_true rfl) (Nat.le_of_ble_eq_true rfl) (rcv_V rfl (congrArg Prod.fst (kf_45 X.1))) rfl ?_
              refine wp_iload rfl rfl ?_
              refine wp_ifltF (tn := 21) rfl rfl c17 ?_
              refine wp_iload rfl rfl ?_
              refine wp_aload rfl rfl ?_
              refine wp_getI (j := 4) rfl (congrArg Prod.fst (kf_45 X.1)) rfl ?_
              refine Wp.topI (y := (h 45 4)) (upd2_o (by decide)) ?_
              refine wp_icgeT (tn := 21) rfl rfl c23 ?_
              refine wp_iconst rfl ?_
              refine wp_iret rfl rfl ?_
              show Wp X _ 213 72 [vr 45, vi x1, vi x2, vi x3, vi (-49)] [vi (-1), vi x1, vr 45] _ _
              refine wp_iload rfl rfl ?_
              refine wp_call (k := 215) (ρ2 := 0) (L2 := [vr 45, vi x1, vi (-1), vi (-49)]) rfl rfl rfl (Nat.le_of_ble_eq_true rfl) (Nat.le_of_ble_eq_true rfl) (Nat.le_of_ble_eq_true rfl) (rcv_V rfl (congrArg Prod.fst (kf_45 X.1))) rfl ?_
              refine wp_iload rfl rfl ?_
              refine wp_iflt (tn := 24) rfl rfl (fun c30 => ?_) (fun c30 => ?_)
              · replace H := H.1 c30
                refine wp_vret rfl rfl ?_
                show Wp X _ 213 77 [vr 45, vi x1, vi x2, vi x3, vi (-49)] [] _ _
                refine wp_iload rfl rfl ?_
                refine wp_iconst rfl ?_
                refine wp_iadd rfl ?_
                have g31 := H.1
                replace H := H.2
                refine Wp.topI (y := (x2 + 2)) (w32_I g31) ?_
                exact wp_iret rfl rfl H
              · replace H := H.2 c30
                refine wp_iload rfl rfl ?_
                refine wp_iconst rfl ?_
                refine wp_icge (tn := 24) rfl rfl (fun c32 => ?_) (fun c32 => ?_)
                · replace H := H.1 c32
                  refine wp_vret rfl rfl ?_
                  show Wp X _ 213 77 [vr 45, vi x1, vi x2, vi x3, vi (-49)] [] _ _
                  refine wp_iload rfl rfl ?_
                  refine wp_iconst rfl ?_
                  refine wp_iadd rfl ?_
                  have g33 := H.1
                  replace H := H.2
                  refine Wp.topI (y := (x2 + 2)) (w32_I g33) ?_
                  exact wp_iret rfl rfl H
                · replace H := H.2 c32
                  refine wp_aload rfl rfl ?_
                  refine wp_getR (r := 46) rfl (congrArg Prod.fst (kf_45 X.1)) rfl ?_
                  refine wp_iload rfl rfl ?_
                  refine wp_iload rfl rfl ?_
                  refine wp_iastore rfl (kf_47 X.1) ⟨c30, c32⟩ ?_
                  refine wp_aload rfl rfl ?_
                  refine wp_getR (r := 47) rfl (congrArg Prod.fst (kf_45 X.1)) rfl ?_
                  refine wp_iload rfl rfl ?_
                  refine wp_iload rfl rfl ?_
                  refine wp_iastore rfl (kf_48 X.1) ⟨c30, c32⟩ ?_
                  refine wp_vret rfl rfl ?_
                  show Wp X _ 213 77 [vr 45, vi x1, vi x2, vi x3, vi (-49)] [] _ _
                  refine wp_iload rfl rfl ?_
                  refine wp_iconst rfl ?_
                  refine wp_iadd rfl ?_
                  have g34 := H.1
                  replace H := H.2
                  refine Wp.topI (y := (x2 + 2)) (w32_I g34) ?_
                  exact wp_iret rfl rfl H
          · replace H := H.2 c23
            refine wp_aload rfl rfl ?_
            refine wp_getR (r := 45) rfl (congrArg Prod.fst (kf_45 X.1)) rfl ?_
            refine wp_iload rfl rfl ?_
            have g35 := H.1
            replace H := H.2
            refine wp_iaload rfl (kf_46 X.1) g35 ?_
            refine wp_goto (tn := 22) rfl rfl ?_
            refine wp_iret rfl rfl ?_
            show Wp X _ 213 31 [vr 45, vi x1, vi x2, vi x3, vi (-49)] [vi (h 46 x2)] _ _
            refine wp_iconst rfl ?_
            refine wp_icne (tn := 52) rfl rfl (fun c36 => ?_) (fun c36 => ?_)
            · replace H := H.1 c36
              refine wp_aload rfl rfl ?_
              refine wp_aload rfl rfl ?_
              refine wp_getI (j := 8) rfl (congrArg Prod.fst (kf_45 X.1)) rfl ?_
              refine wp_iload rfl rfl ?_
              refine wp_call (k := 253) (ρ2 := 0) (L2 := [vi (h 45 8), vi (-49)]) rfl rfl rfl (Nat.le_of_ble_eq_true rfl) (Nat.le_of_ble_eq_true rfl) (Nat.le_of_ble_eq_true rfl) (rcv_S rfl) rfl ?_
              refine wp_iload rfl rfl ?_
              refine wp_iload rfl rfl ?_
              refine wp_icgt (tn := 9) rfl rfl (fun c37 => ?_) (fun c37 => ?_)
              · replace H := H.1 c37
                refine wp_iload rfl rfl ?_
                refine wp_iret rfl rfl ?_
                show Wp X _ 213 62 [vr 45, vi x1, vi x2, vi x3, vi (-49)] [vi (-49), vr 45] _ _
                refine wp_putI (j := 8) rfl (congrArg Prod.fst (kf_45 X.1)) rfl rfl rfl ?_
                refine wp_aload rfl rfl ?_
                refine wp_iload rfl rfl ?_
                refine wp_aload rfl rfl ?_
                refine wp_iload rfl rfl ?_
                refine wp_call (k := 218) (ρ2 := 0) (L2 := [vr 45, vi x2]) rfl rfl rfl (Nat.le_of_ble_eq_true rfl) (Nat.le_of_ble_eq_true rfl) (Nat.le_of_ble_eq_true rfl) (rcv_V rfl (congrArg Prod.fst (kf_45 X.1))) rfl ?_
                refine wp_iload rfl rfl ?_
                refine wp_ifltF (tn := 21) rfl rfl g35.1 ?_
                refine wp_iload rfl rfl ?_
                refine wp_aload rfl rfl ?_
                refine wp_getI (j := 4) rfl (congrArg Prod.fst (kf_45 X.1)) rfl ?_
                refine Wp.topI (y := (h 45 4)) (upd2_o (by decide)) ?_
                refine wp_icgeF (tn := 21) rfl rfl c23 ?_
                refine wp_aload rfl rfl ?_
                refine wp_getR (r := 45) rfl (congrArg Prod.fst (kf_45 X.1)) rfl ?_
                refine wp_iload rfl rfl ?_
                refine wp_iaload rfl (kf_46 X.1) ⟨g35.1, g35.2⟩ ?_
                refine Wp.topI (y := (h 46 x2)) (congrFun (upd2_ne (by decide)) _) ?_
                refine wp_goto (tn := 22) rfl rfl ?_
                refine wp_iret rfl rfl ?_
                show Wp X _ 213 72 [vr 45, vi x1, vi x2, vi x3, vi (-49)] [vi (h 46 x2), vi x1, vr 45] _ _
                refine wp_iload rfl rfl ?_
                refine wp_call (k := 215) (ρ2 := 0) (L2 := [vr 45, vi x1, vi (h 46 x2), vi (-49)]) rfl rfl rfl (Nat.le_of_ble_eq_true rfl) (Nat.le_of_ble_eq_true rfl) (Nat.le_of_ble_eq_true rfl) (rcv_V rfl (congrArg Prod.fst (kf_45 X.1))) rfl ?_
                refine wp_iload rfl rfl ?_
                refine wp_iflt (tn := 24) rfl rfl (fun c38 => ?_) (fun c38 => ?_)
                · replace H := H.1 c38
                  refine wp_vret rfl rfl ?_
                  show Wp X _ 213 77 [vr 45, vi x1, vi x2, vi x3, vi (-49)] [] _ _
                  refine wp_iload rfl rfl ?_
                  refine wp_iconst rfl ?_
                  refine wp_iadd rfl ?_
                  refine Wp.topI (y := (x2 + 2)) (w32_I (by clear H; unfold R32; omega)) ?_
                  exact wp_iret rfl rfl H
                · replace H := H.2 c38
                  refine wp_iload rfl rfl ?_
                  refine wp_iconst rfl ?_
                  refine wp_icge (tn := 24) rfl rfl (fun c39 => ?_) (fun c39 => ?_)
                  · replace H := H.1 c39
                    refine wp_vret rfl rfl ?_
                    show Wp X _ 213 77 [vr 45, vi x1, vi x2, vi x3, vi (-49)] [] _ _
                    refine wp_iload rfl rfl ?_
                    refine wp_iconst rfl ?_
                    refine wp_iadd rfl ?_
                    refine Wp.topI (y := (x2 + 2)) (w32_I (by clear H; unfold R32; omega)) ?_
                    exact wp_iret rfl rfl H
                  · replace H := H.2 c39
                    refine wp_aload rfl rfl ?_
                    refine wp_getR (r := 46) rfl (congrArg Prod.fst (kf_45 X.1)) rfl ?_
                    refine wp_iload rfl rfl ?_
                    refine wp_iload rfl rfl ?_
                    refine wp_iastore rfl (kf_47 X.1) ⟨c38, c39⟩ ?_
                    refine wp_aload rfl rfl ?_
                    refine wp_getR (r := 47) rfl (congrArg Prod.fst (kf_45 X.1)) rfl ?_
                    refine wp_iload rfl rfl ?_
                    refine wp_iload rfl rfl ?_
                    refine wp_iastore rfl (kf_48 X.1) ⟨c38, c39⟩ ?_
                    refine wp_vret rfl rfl ?_
                    show Wp X _ 213 77 [vr 45, vi x1, vi x2, vi x3, vi (-49)] [] _ _
                    refine wp_iload rfl rfl ?_
                    refine wp_iconst rfl ?_
                    refine wp_iadd rfl ?_
                    refine Wp.topI (y := (x2 + 2)) (w32_I (by clear H; unfold R32; omega)) ?_
                    exact wp_iret rfl rfl H
              · replace H := H.2 c37
                refine wp_iload rfl rfl ?_
                refine wp_goto (tn := 10) rfl rfl ?_
                refine wp_iret rfl rfl ?_
                show Wp X _ 213 62 [vr 45, vi x1, vi x2, vi x3, vi (-49)] [vi (h 45 8), vr 45] _ _
                refine wp_putI (j := 8) rfl (congrArg Prod.fst (kf_45 X.1)) rfl rfl rfl ?_
                refine wp_aload rfl rfl ?_
                refine wp_iload rfl rfl ?_
                refine wp_aload rfl rfl ?_
                refine wp_iload rfl rfl ?_
                refine wp_call (k := 218) (ρ2 := 0) (L2 := [vr 45, vi x2]) rfl rfl rfl (Nat.le_of_ble_eq_true rfl) (Nat.le_of_ble_eq_true rfl) (Nat.le_of_ble_eq_true rfl) (rcv_V rfl (congrArg Prod.fst (kf_45 X.1))) rfl ?_
                refine wp_iload rfl rfl ?_
                refine wp_ifltF (tn := 21) rfl rfl g35.1 ?_
                refine wp_iload rfl rfl ?_
                refine wp_aload rfl rfl ?_
                refine wp_getI (j := 4) rfl (congrArg Prod.fst (kf_45 X.1)) rfl ?_
                refine Wp.topI (y := (h 45 4)) (upd2_o (by decide)) ?_
                refine wp_icgeF (tn := 21) rfl rfl c23 ?_
                refine wp_aload rfl rfl ?_
                refine wp_getR (r := 45) rfl (congrArg Prod.fst (kf_45 X.1)) rfl ?_
                refine wp_iload rfl rfl ?_
                refine wp_iaload rfl (kf_46 X.1) ⟨g35.1, g35.2⟩ ?_
                refine Wp.topI (y := (h 46 x2)) (congrFun (upd2_ne (by decide)) _) ?_
                refine wp_goto (tn := 22) rfl rfl ?_
                refine wp_iret rfl rfl ?_
                show Wp X _ 213 72 [vr 45, vi x1, vi x2, vi x3, vi (-49)] [vi (h 46 x2), vi x1, vr 45] _ _
                refine wp_iload rfl rfl ?_
                refine wp_call (k := 215) (ρ2 := 0) (L2 := [vr 45, vi x1, vi (h 46 x2), vi (-49)]) rfl rfl rfl (Nat.le_of_ble_eq_true rfl) (Nat.le_of_ble_eq_true rfl) (Nat.le_of_ble_eq_true rfl) (rcv_V rfl (congrArg Prod.fst (kf_45 X.1))) rfl ?_
                refine wp_iload rfl rfl ?_
                refine wp_iflt (tn := 24) rfl rfl (fun c40 => ?_) (fun c40 => ?_)
                · replace H := H.1 c40
                  refine wp_vret rfl rfl ?_
                  show Wp X _ 213 77 [vr 45, vi x1, vi x2, vi x3, vi (-49)] [] _ _
                  refine wp_iload rfl rfl ?_
                  refine wp_iconst rfl ?_
                  refine wp_iadd rfl ?_
                  refine Wp.topI (y := (x2 + 2)) (w32_I (by clear H; unfold R32; omega)) ?_
                  exact wp_iret rfl rfl H
                · replace H := H.2 c40
                  refine wp_iload rfl rfl ?_
                  refine wp_iconst rfl ?_
                  refine wp_icge (tn := 24) rfl rfl (fun c41 => ?_) (fun c41 => ?_)
                  · replace H := H.1 c41
                    refine wp_vret rfl rfl ?_
                    show Wp X _ 213 77 [vr 45, vi x1, vi x2, vi x3, vi (-49)] [] _ _
                    refine wp_iload rfl rfl ?_
                    refine wp_iconst rfl ?_
                    refine wp_iadd rfl ?_
                    refine Wp.topI (y := (x2 + 2)) (w32_I (by clear H; unfold R32; omega)) ?_
                    exact wp_iret rfl rfl H
                  · replace H := H.2 c41
                    refine wp_aload rfl rfl ?_
                    refine wp_getR (r := 46) rfl (congrArg Prod.fst (kf_45 X.1)) rfl ?_
                    refine wp_iload rfl rfl ?_
                    refine wp_iload rfl rfl ?_
                    refine wp_iastore rfl (kf_47 X.1) ⟨c40, c41⟩ ?_
                    refine wp_aload rfl rfl ?_
                    refine wp_getR (r := 47) rfl (congrArg Prod.fst (kf_45 X.1)) rfl ?_
                    refine wp_iload rfl rfl ?_
                    refine wp_iload rfl rfl ?_
                    refine wp_iastore rfl (kf_48 X.1) ⟨c40, c41⟩ ?_
                    refine wp_vret rfl rfl ?_
                    show Wp X _ 213 77 [vr 45, vi x1, vi x2, vi x3, vi (-49)] [] _ _
                    refine wp_iload rfl rfl ?_
                    refine wp_iconst rfl ?_
                    refine wp_iadd rfl ?_
                    refine Wp.topI (y := (x2 + 2)) (w32_I (by clear H; unfold R32; omega)) ?_
                    exact wp_iret rfl rfl H
            · replace H := H.2 c36
              refine wp_aload rfl rfl ?_
              refine wp_aload rfl rfl ?_
              refine wp_getI (j := 7) rfl (congrArg Prod.fst (kf_45 X.1)) rfl ?_
              refine wp_iload rfl rfl ?_
              refine wp_call (k := 253) (ρ2 := 0) (L2 := [vi (h 45 7), vi (-49)]) rfl rfl rfl (Nat.le_of_ble_eq_true rfl) (Nat.le_of_ble_eq_true rfl) (Nat.le_of_ble_eq_true rfl) (rcv_S rfl) rfl ?_
              refine wp_iload rfl rfl ?_
              refine wp_iload rfl rfl ?_
              refine wp_icgt (tn := 9) rfl rfl (fun c42 => ?_) (fun c42 => ?_)
              · replace H := H.1 c42
                refine wp_iload rfl rfl ?_
                refine wp_iret rfl rfl ?_
                show Wp X _ 213 46 [vr 45, vi x1, vi x2, vi x3, vi (-49)] [vi (-49), vr 45] _ _
                refine wp_putI (j := 7) rfl (congrArg Prod.fst (kf_45 X.1)) rfl rfl rfl ?_
                refine wp_goto (tn := 65) rfl rfl ?_
                refine wp_aload rfl rfl ?_
                refine wp_iload rfl rfl ?_
                refine wp_aload rfl rfl ?_
                refine wp_iload rfl rfl ?_
                refine wp_call (k := 218) (ρ2 := 0) (L2 := [vr 45, vi x2]) rfl rfl rfl (Nat.le_of_ble_eq_true rfl) (Nat.le_of_ble_eq_true rfl) (Nat.le_of_ble_eq_true rfl) (rcv_V rfl (congrArg Prod.fst (kf_45 X.1))) rfl ?_
                refine wp_iload rfl rfl ?_
                refine wp_ifltF (tn := 21) rfl rfl g35.1 ?_
                refine wp_iload rfl rfl ?_
                refine wp_aload rfl rfl ?_
                refine wp_getI (j := 4) rfl (congrArg Prod.fst (kf_45 X.1)) rfl ?_
                refine Wp.topI (y := (h 45 4)) (upd2_o (by decide)) ?_
                refine wp_icgeF (tn := 21) rfl rfl c23 ?_
                refine wp_aload rfl rfl ?_
                refine wp_getR (r := 45) rfl (congrArg Prod.fst (kf_45 X.1)) rfl ?_
                refine wp_iload rfl rfl ?_
                refine wp_iaload rfl (kf_46 X.1) ⟨g35.1, g35.2⟩ ?_
                refine Wp.topI (y := (h 46 x2)) (congrFun (upd2_ne (by decide)) _) ?_
                refine wp_goto (tn := 22) rfl rfl ?_
                refine wp_iret rfl rfl ?_
                show Wp X _ 213 72 [vr 45, vi x1, vi x2, vi x3, vi (-49)] [vi (h 46 x2), vi x1, vr 45] _ _
                refine wp_iload rfl rfl ?_
                refine wp_call (k := 215) (ρ2 := 0) (L2 := [vr 45, vi x1, vi (h 46 x2), vi (-49)]) rfl rfl rfl (Nat.le_of_ble_eq_true rfl) (Nat.le_of_ble_eq_true rfl) (Nat.le_of_ble_eq_true rfl) (rcv_V rfl (congrArg Prod.fst (kf_45 X.1))) rfl ?_
                refine wp_iload rfl rfl ?_
                refine wp_iflt (tn := 24) rfl rfl (fun c43 => ?_) (fun c43 => ?_)
                · replace H := H.1 c43
                  refine wp_vret rfl rfl ?_
                  show Wp X _ 213 77 [vr 45, vi x1, vi x2, vi x3, vi (-49)] [] _ _
                  refine wp_iload rfl rfl ?_
                  refine wp_iconst rfl ?_
                  refine wp_iadd rfl ?_
                  refine Wp.topI (y := (x2 + 2)) (w32_I (by clear H; unfold R32; omega)) ?_
                  exact wp_iret rfl rfl H
                · replace H := H.2 c43
                  refine wp_iload rfl rfl ?_
                  refine wp_iconst rfl ?_
                  refine wp_icge (tn := 24) rfl rfl (fun c44 => ?_) (fun c44 => ?_)
                  · replace H := H.1 c44
                    refine wp_vret rfl rfl ?_
                    show Wp X _ 213 77 [vr 45, vi x1, vi x2, vi x3, vi (-49)] [] _ _
                    refine wp_iload rfl rfl ?_
                    refine wp_iconst rfl ?_
                    refine wp_iadd rfl ?_
                    refine Wp.topI (y := (x2 + 2)) (w32_I (by clear H; unfold R32; omega)) ?_
                    exact wp_iret rfl rfl H
                  · replace H := H.2 c44
                    refine wp_aload rfl rfl ?_
                    refine wp_getR (r := 46) rfl (congrArg Prod.fst (kf_45 X.1)) rfl ?_
                    refine wp_iload rfl rfl ?_
                    refine wp_iload rfl rfl ?_
                    refine wp_iastore rfl (kf_47 X.1) ⟨c43, c44⟩ ?_
                    refine wp_aload rfl rfl ?_
                    refine wp_getR (r := 47) rfl (congrArg Prod.fst (kf_45 X.1)) rfl ?_
                    refine wp_iload rfl rfl ?_
                    refine wp_iload rfl rfl ?_
                    refine wp_iastore rfl (kf_48 X.1) ⟨c43, c44⟩ ?_
                    refine wp_vret rfl rfl ?_
                    show Wp X _ 213 77 [vr 45, vi x1, vi x2, vi x3, vi (-49)] [] _ _
                    refine wp_iload rfl rfl ?_
                    refine wp_iconst rfl ?_
                    refine wp_iadd rfl ?_
                    refine Wp.topI (y := (x2 + 2)) (w32_I (by clear H; unfold R32; omega)) ?_
                    exact wp_iret rfl rfl H
              · replace H := H.2 c42
                refine wp_iload rfl rfl ?_
                refine wp_goto (tn := 10) rfl rfl ?_
                refine wp_iret rfl rfl ?_
                show Wp X _ 213 46 [vr 45, vi x1, vi x2, vi x3, vi (-49)] [vi (h 45 7), vr 45] _ _
                refine wp_putI (j := 7) rfl (congrArg Prod.fst (kf_45 X.1)) rfl rfl rfl ?_
                refine wp_goto (tn := 65) rfl rfl ?_
                refine wp_aload rfl rfl ?_
                refine wp_iload rfl rfl ?_
                refine wp_aload rfl rfl ?_
                refine wp_iload rfl rfl ?_
                refine wp_call (k := 218) (ρ2 := 0) (L2 := [vr 45, vi x2]) rfl rfl rfl (Nat.le_of_ble_eq_true rfl) (Nat.le_of_ble_eq_true rfl) (Nat.le_of_ble_eq_true rfl) (rcv_V rfl (congrArg Prod.fst (kf_45 X.1))) rfl ?_
                refine wp_iload rfl rfl ?_
                refine wp_ifltF (tn := 21) rfl rfl g35.1 ?_
                refine wp_iload rfl rfl ?_
                refine wp_aload rfl rfl ?_
                refine wp_getI (j := 4) rfl (congrArg Prod.fst (kf_45 X.1)) rfl ?_
                refine Wp.topI (y := (h 45 4)) (upd2_o (by decide)) ?_
                refine wp_icgeF (tn := 21) rfl rfl c23 ?_
                refine wp_aload rfl rfl ?_
                refine wp_getR (r := 45) rfl (congrArg Prod.fst (kf_45 X.1)) rfl ?_
                refine wp_iload rfl rfl ?_
                refine wp_iaload rfl (kf_46 X.1) ⟨g35.1, g35.2⟩ ?_
                refine Wp.topI (y := (h 46 x2)) (congrFun (upd2_ne (by decide)) _) ?_
                refine wp_goto (tn := 22) rfl rfl ?_
                refine wp_iret rfl rfl ?_
                show Wp X _ 213 72 [vr 45, vi x1, vi x2, vi x3, vi (-49)] [vi (h 46 x2), vi x1, vr 45] _ _
                refine wp_iload rfl rfl ?_
                refine wp_call (k := 215) (ρ2 := 0) (L2 := [vr 45, vi x1, vi (h 46 x2), vi (-49)]) rfl rfl rfl (Nat.le_of_ble_eq_true rfl) (Nat.le_of_ble_eq_true rfl) (Nat.le_of_ble_eq_true rfl) (rcv_V rfl (congrArg Prod.fst (kf_45 X.1))) rfl ?_
                refine wp_iload rfl rfl ?_
                refine wp_iflt (tn := 24) rfl rfl (fun c45 => ?_) (fun c45 => ?_)
                · replace H := H.1 c45
                  refine wp_vret rfl rfl ?_
                  show Wp X _ 213 77 [vr 45, vi x1, vi x2, vi x3, vi (-49)] [] _ _
                  refine wp_iload rfl rfl ?_
                  refine wp_iconst rfl ?_
                  refine wp_iadd rfl ?_
                  refine Wp.topI (y := (x2 + 2)) (w32_I (by clear H; unfold R32; omega)) ?_
                  exact wp_iret rfl rfl H
                · replace H := H.2 c45
                  refine wp_iload rfl rfl ?_
                  refine wp_iconst rfl ?_
                  refine wp_icge (tn := 24) rfl rfl (fun c46 => ?_) (fun c46 => ?_)
                  · replace H := H.1 c46
                    refine wp_vret rfl rfl ?_
                    show Wp X _ 213 77 [vr 45, vi x1, vi x2, vi x3, vi (-49)] [] _ _
                    refine wp_iload rfl rfl ?_
                    refine wp_iconst rfl ?_
                    refine wp_iadd rfl ?_
                    refine Wp.topI (y := (x2 + 2)) (w32_I (by clear H; unfold R32; omega)) ?_
                    exact wp_iret rfl rfl H
                  · replace H := H.2 c46
                    refine wp_aload rfl rfl ?_
                    refine wp_getR (r := 46) rfl (congrArg Prod.fst (kf_45 X.1)) rfl ?_
                    refine wp_iload rfl rfl ?_
                    refine wp_iload rfl rfl ?_
                    refine wp_iastore rfl (kf_47 X.1) ⟨c45, c46⟩ ?_
                    refine wp_aload rfl rfl ?_
                    refine wp_getR (r := 47) rfl (congrArg Prod.fst (kf_45 X.1)) rfl ?_
                    refine wp_iload rfl rfl ?_
                    refine wp_iload rfl rfl ?_
                    refine wp_iastore rfl (kf_48 X.1) ⟨c45, c46⟩ ?_
                    refine wp_vret rfl rfl ?_
                    show Wp X _ 213 77 [vr 45, vi x1, vi x2, vi x3, vi (-49)] [] _ _
                    refine wp_iload rfl rfl ?_
                    refine wp_iconst rfl ?_
                    refine wp_iadd rfl ?_
                    refine Wp.topI (y := (x2 + 2)) (w32_I (by clear H; unfold R32; omega)) ?_
                    exact wp_iret rfl rfl H
    · replace H := H.2 c15
      refine wp_aload rfl rfl ?_
      refine wp_getR (r := 45) rfl (congrArg Prod.fst (kf_45 X.1)) rfl ?_
      refine wp_iload rfl rfl ?_
      have g47 := H.1
      replace H := H.2
      refine wp_iaload rfl (kf_46 X.1) g47 ?_
      refine wp_goto (tn := 22) rfl rfl ?_
      refine wp_iret rfl rfl ?_
      show Wp X _ 217 5 [vr 45, vi (x2 + 1), vi x3, vi 9, vu] [vi (h 46 (x2 + 1))] _ _
      refine wp_iconst rfl ?_
      refine wp_isub rfl ?_
      have g48 := H.1
      replace H := H.2
      refine Wp.topI (y := ((h 46 (x2 + 1)) - 48)) (w32_I g48) ?_
      refine wp_istore (L2 := [vr 45, vi (x2 + 1), vi x3, vi 9, vi ((h 46 (x2 + 1)) - 48)]) rfl (Nat.le_of_ble_eq_true rfl) rfl ?_
      refine wp_iload rfl rfl ?_
      refine wp_iload rfl rfl ?_
      refine wp_iclt (tn := 22) rfl rfl (fun c49 => ?_) (fun c49 => ?_)
      · replace H := H.1 c49
        refine wp_iconst rfl ?_
        refine wp_goto (tn := 28) rfl rfl ?_
        refine wp_iret rfl rfl ?_
        show Wp X _ 213 10 [vr 45, vi x1, vi x2, vi x3, vu] [vi (-1)] _ _
        refine wp_istore (L2 := [vr 45, vi x1, vi x2, vi x3, vi (-1)]) rfl (Nat.le_of_ble_eq_true rfl) rfl ?_
        refine wp_iload rfl rfl ?_
        refine wp_iconst rfl ?_
        refine wp_icneF (tn := 26) rfl rfl (by decide) ?_
        refine wp_aload rfl rfl ?_
        refine wp_iload rfl rfl ?_
        refine wp_iconst rfl ?_
        refine wp_iadd rfl ?_
        refine Wp.topI (y := (x2 + 1)) (w32_I (by clear H; unfold R32; omega)) ?_
        refine wp_call (k := 216) (ρ2 := 0) (L2 := [vr 45, vi (x2 + 1)]) rfl rfl rfl (Nat.le_of_ble_eq_true rfl) (Nat.le_of_ble_eq_true rfl) (Nat.le_of_ble_eq_true rfl) (rcv_V rfl (congrArg Prod.fst (kf_45 X.1))) rfl ?_
        refine wp_aload rfl rfl ?_
        refine wp_iload rfl rfl ?_
        refine wp_putI (j := 6) rfl (congrArg Prod.fst (kf_45 X.1)) rfl rfl rfl ?_
        refine wp_iload rfl rfl ?_
        refine wp_iret rfl rfl ?_
        show Wp X _ 213 25 [vr 45, vi x1, vi x2, vi x3, vi (-1)] [vi (x2 + 1)] _ _
        exact wp_iret rfl rfl H
      · replace H := H.2 c49
        refine wp_iload rfl rfl ?_
        refine wp_iload rfl rfl ?_
        refine wp_icle (tn := 26) rfl rfl (fun c50 => ?_) (fun c50 => ?_)
        · replace H := H.1 c50
          refine wp_iload rfl rfl ?_
          refine wp_iret rfl rfl ?_
          show Wp X _ 213 10 [vr 45, vi x1, vi x2, vi x3, vu] [vi ((h 46 (x2 + 1)) - 48)] _ _
          refine wp_istore (L2 := [vr 45, vi x1, vi x2, vi x3, vi ((h 46 (x2 + 1)) - 48)]) rfl (Nat.le_of_ble_eq_true rfl) rfl ?_
          refine wp_iload rfl rfl ?_
          refine wp_iconst rfl ?_
          refine wp_icne (tn := 26) rfl rfl (fun c51 => ?_) (fun c51 => ?_)
          · replace H := H.1 c51
            refine wp_aload rfl rfl ?_
            refine wp_iload rfl rfl ?_
            refine wp_call (k := 218) (ρ2 := 0) (L2 := [vr 45, vi x2]) rfl rfl rfl (Nat.le_of_ble_eq_true rfl) (Nat.le_of_ble_eq_true rfl) (Nat.le_of_ble_eq_true rfl) (rcv_V rfl (congrArg Prod.fst (kf_45 X.1))) rfl ?_
            refine wp_iload rfl rfl ?_
            refine wp_iflt (tn := 21) rfl rfl (fun c52 => ?_) (fun c52 => ?_)
            · replace H := H.1 c52
              refine wp_iconst rfl ?_
              refine wp_iret rfl rfl ?_
              show Wp X _ 213 31 [vr 45, vi x1, vi x2, vi x3, vi ((h 46 (x2 + 1)) - 48)] [vi (-1)] _ _
              refine wp_iconst rfl ?_
              refine wp_icneT (tn := 52) rfl rfl (by decide) ?_
              refine wp_aload rfl rfl ?_
              refine wp_aload rfl rfl ?_
              refine wp_getI (j := 8) rfl (congrArg Prod.fst (kf_45 X.1)) rfl ?_
              refine wp_iload rfl rfl ?_
              refine wp_call (k := 253) (ρ2 := 0) (L2 := [vi (h 45 8), vi ((h 46 (x2 + 1)) - 48)]) rfl rfl rfl (Nat.le_of_ble_eq_true rfl) (Nat.le_of_ble_eq_true rfl) (Nat.le_of_ble_eq_true rfl) (rcv_S rfl) rfl ?_
              refine wp_iload rfl rfl ?_
              refine wp_iload rfl rfl ?_
              refine wp_icgt (tn := 9) rfl rfl (fun c53 => ?_) (fun c53 => ?_)
              · replace H := H.1 c53
                refine wp_iload rfl rfl ?_
                refine wp_iret rfl rfl ?_
                show Wp X _ 213 62 [vr 45, vi x1, vi x2, vi x3, vi ((h 46 (x2 + 1)) - 48)] [vi ((h 46 (x2 + 1)) - 48), vr 45] _ _
                refine wp_putI (j := 8) rfl (congrArg Prod.fst (kf_45 X.1)) rfl rfl rfl ?_
                refine wp_aload rfl rfl ?_
                refine wp_iload rfl rfl ?_
                refine wp_aload rfl rfl ?_
                refine wp_iload rfl rfl ?_
                refine wp_call (k := 218) (ρ2 := 0) (L2 := [vr 45, vi x2]) rfl rfl rfl (Nat.le_of_ble_eq_true rfl) (Nat.le_of_ble_eq_true rfl) (Nat.le_of_ble_eq_true rfl) (rcv_V rfl (congrArg Prod.fst (kf_45 X.1))) rfl ?_
                refine wp_iload rfl rfl ?_
                refine wp_ifltT (tn := 21) rfl rfl c52 ?_
                refine wp_iconst rfl ?_
                refine wp_iret rfl rfl ?_
                show Wp X _ 213 72 [vr 45, vi x1, vi x2, vi x3, vi ((h 46 (x2 + 1)) - 48)] [vi (-1), vi x1, vr 45] _ _
                refine wp_iload rfl rfl ?_
                refine wp_call (k := 215) (ρ2 := 0) (L2 := [vr 45, vi x1, vi (-1), vi ((h 46 (x2 + 1)) - 48)]) rfl rfl rfl (Nat.le_of_ble_eq_true rfl) (Nat.le_of_ble_eq_true rfl) (Nat.le_of_ble_eq_true rfl) (rcv_V rfl (congrArg Prod.fst (kf_45 X.1))) rfl ?_
                refine wp_iload rfl rfl ?_
                refine wp_iflt (tn := 24) rfl rfl (fun c54 => ?_) (fun c54 => ?_)
                · replace H := H.1 c54
                  refine wp_vret rfl rfl ?_
                  show Wp X _ 213 77 [vr 45, vi x1, vi x2, vi x3, vi ((h 46 (x2 + 1)) - 48)] [] _ _
                  refine wp_iload rfl rfl ?_
                  refine wp_iconst rfl ?_
                  refine wp_iadd rfl ?_
                  refine Wp.topI (y := (x2 + 2)) (w32_I (by clear H; unfold R32; omega)) ?_
                  exact wp_iret rfl rfl H
                · replace H := H.2 c54
                  refine wp_iload rfl rfl ?_
                  refine wp_iconst rfl ?_
                  refine wp_icge (tn := 24) rfl rfl (fun c55 => ?_) (fun c55 => ?_)
                  · replace H := H.1 c55
                    refine wp_vret rfl rfl ?_
                    show Wp X _ 213 77 [vr 45, vi x1, vi x2, vi x3, vi ((h 46 (x2 + 1)) - 48)] [] _ _
                    refine wp_iload rfl rfl ?_
                    refine wp_iconst rfl ?_
                    refine wp_iadd rfl ?_
                    refine Wp.topI (y := (x2 + 2)) (w32_I (by clear H; unfold R32; omega)) ?_
                    exact wp_iret rfl rfl H
                  · replace H := H.2 c55
                    refine wp_aload rfl rfl ?_
                    refine wp_getR (r := 46) rfl (congrArg Prod.fst (kf_45 X.1)) rfl ?_
                    refine wp_iload rfl rfl ?_
                    refine wp_iload rfl rfl ?_
                    refine wp_iastore rfl (kf_47 X.1) ⟨c54, c55⟩ ?_
                    refine wp_aload rfl rfl ?_
                    refine wp_getR (r := 47) rfl (congrArg Prod.fst (kf_45 X.1)) rfl ?_
                    refine wp_iload rfl rfl ?_
                    refine wp_iload rfl rfl ?_
                    refine wp_iastore rfl (kf_48 X.1) ⟨c54, c55⟩ ?_
                    refine wp_vret rfl rfl ?_
                    show Wp X _ 213 77 [vr 45, vi x1, vi x2, vi x3, vi ((h 46 (x2 + 1)) - 48)] [] _ _
                    refine wp_iload rfl rfl ?_
                    refine wp_iconst rfl ?_
                    refine wp_iadd rfl ?_
                    refine Wp.topI (y := (x2 + 2)) (w32_I (by clear H; unfold R32; omega)) ?_
                    exact wp_iret rfl rfl H
              · replace H := H.2 c53
                refine wp_iload rfl rfl ?_
                refine wp_goto (tn := 10) rfl rfl ?_
                refine wp_iret rfl rfl ?_
                show Wp X _ 213 62 [vr 45, vi x1, vi x2, vi x3, vi ((h 46 (x2 + 1)) - 48)] [vi (h 45 8), vr 45] _ _
                refine wp_putI (j := 8) rfl (congrArg Prod.fst (kf_45 X.1)) rfl rfl rfl ?_
                refine wp_aload rfl rfl ?_
                refine wp_iload rfl rfl ?_
                refine wp_aload rfl rfl ?_
                refine wp_iload rfl rfl ?_
                refine wp_call (k := 218) (ρ2 := 0) (L2 := [vr 45, vi x2]) rfl rfl rfl (Nat.le_of_ble_eq_true rfl) (Nat.le_of_ble_eq_true rfl) (Nat.le_of_ble_eq_true rfl) (rcv_V rfl (congrArg Prod.fst (kf_45 X.1))) rfl ?_
                refine wp_iload rfl rfl ?_
                refine wp_ifltT (tn := 21) rfl rfl c52 ?_
                refine wp_iconst rfl ?_
                refine wp_iret rfl rfl ?_
                show Wp X _ 213 72 [vr 45, vi x1, vi x2, vi x3, vi ((h 46 (x2 + 1)) - 48)] [vi (-1), vi x1, vr 45] _ _
                refine wp_iload rfl rfl ?_
                refine wp_call (k := 215) (ρ2 := 0) (L2 := [vr 45, vi x1, vi (-1), vi ((h 46 (x2 + 1)) - 48)]) rfl rfl rfl (Nat.le_of_ble_eq_true rfl) (Nat.le_of_ble_eq_true rfl) (Nat.le_of_ble_eq_true rfl) (rcv_V rfl (congrArg Prod.fst (kf_45 X.1))) rfl ?_
                refine wp_iload rfl rfl ?_
                refine wp_iflt (tn := 24) rfl rfl (fun c56 => ?_) (fun c56 => ?_)
                · replace H := H.1 c56
                  refine wp_vret rfl rfl ?_
                  show Wp X _ 213 77 [vr 45, vi x1, vi x2, vi x3, vi ((h 46 (x2 + 1)) - 48)] [] _ _
                  refine wp_iload rfl rfl ?_
                  refine wp_iconst rfl ?_
                  refine wp_iadd rfl ?_
                  refine Wp.topI (y := (x2 + 2)) (w32_I (by clear H; unfold R32; omega)) ?_
                  exact wp_iret rfl rfl H
                · replace H := H.2 c56
                  refine wp_iload rfl rfl ?_
                  refine wp_iconst rfl ?_
                  refine wp_icge (tn := 24) rfl rfl (fun c57 => ?_) (fun c57 => ?_)
                  · replace H := H.1 c57
                    refine wp_vret rfl rfl ?_
                    show Wp X _ 213 77 [vr 45, vi x1, vi x2, vi x3, vi ((h 46 (x2 + 1)) - 48)] [] _ _
                    refine wp_iload rfl rfl ?_
                    refine wp_iconst rfl ?_
                    refine wp_iadd rfl ?_
                    refine Wp.topI (y := (x2 + 2)) (w32_I (by clear H; unfold R32; omega)) ?_
                    exact wp_iret rfl rfl H
                  · replace H := H.2 c57
                    refine wp_aload rfl rfl ?_
                    refine wp_getR (r := 46) rfl (congrArg Prod.fst (kf_45 X.1)) rfl ?_
                    refine wp_iload rfl rfl ?_
                    refine wp_iload rfl rfl ?_
                    refine wp_iastore rfl (kf_47 X.1) ⟨c56, c57⟩ ?_
                    refine wp_aload rfl rfl ?_
                    refine wp_getR (r := 47) rfl (congrArg Prod.fst (kf_45 X.1)) rfl ?_
                    refine wp_iload rfl rfl ?_
                    refine wp_iload rfl rfl ?_
                    refine wp_iastore rfl (kf_48 X.1) ⟨c56, c57⟩ ?_
                    refine wp_vret rfl rfl ?_
                    show Wp X _ 213 77 [vr 45, vi x1, vi x2, vi x3, vi ((h 46 (x2 + 1)) - 48)] [] _ _
                    refine wp_iload rfl rfl ?_
                    refine wp_iconst rfl ?_
                    refine wp_iadd rfl ?_
                    refine Wp.topI (y := (x2 + 2)) (w32_I (by clear H; unfold R32; omega)) ?_
                    exact wp_iret rfl rfl H
            · replace H := H.2 c52
              refine wp_iload rfl rfl ?_
              refine wp_aload rfl rfl ?_
              refine wp_getI (j := 4) rfl (congrArg Prod.fst (kf_45 X.1)) rfl ?_
              refine wp_icge (tn := 21) rfl rfl (fun c58 => ?_) (fun c58 => ?_)
              · replace H := H.1 c58
                refine wp_iconst rfl ?_
                refine wp_iret rfl rfl ?_
                show Wp X _ 213 31 [vr 45, vi x1, vi x2, vi x3, vi ((h 46 (x2 + 1)) - 48)] [vi (-1)] _ _
                refine wp_iconst rfl ?_
                refine wp_icneT (tn := 52) rfl rfl (by decide) ?_
                refine wp_aload rfl rfl ?_
                refine wp_aload rfl rfl ?_
                refine wp_getI (j := 8) rfl (congrArg Prod.fst (kf_45 X.1)) rfl ?_
                refine wp_iload rfl rfl ?_
                refine wp_call (k := 253) (ρ2 := 0) (L2 := [vi (h 45 8), vi ((h 46 (x2 + 1)) - 48)]) rfl rfl rfl (Nat.le_of_ble_eq_true rfl) (Nat.le_of_ble_eq_true rfl) (Nat.le_of_ble_eq_true rfl) (rcv_S rfl) rfl ?_
                refine wp_iload rfl rfl ?_
                refine wp_iload rfl rfl ?_
                refine wp_icgt (tn := 9) rfl rfl (fun c59 => ?_) (fun c59 => ?_)
                · replace H := H.1 c59
                  refine wp_iload rfl rfl ?_
                  refine wp_iret rfl rfl ?_
                  show Wp X _ 213 62 [vr 45, vi x1, vi x2, vi x3, vi ((h 46 (x2 + 1)) - 48)] [vi ((h 46 (x2 + 1)) - 48), vr 45] _ _
                  refine wp_putI (j := 8) rfl (congrArg Prod.fst (kf_45 X.1)) rfl rfl rfl ?_
                  refine wp_aload rfl rfl ?_
                  refine wp_iload rfl rfl ?_
                  refine wp_aload rfl rfl ?_
                  refine wp_iload rfl rfl ?_
                  refine wp_call (k := 218) (ρ2 := 0) (L2 := [vr 45, vi x2]) rfl rfl rfl (Nat.le_of_ble_eq_true rfl) (Nat.le_of_ble_eq_true rfl) (Nat.le_of_ble_eq_true rfl) (rcv_V rfl (congrArg Prod.fst (kf_45 X.1))) rfl ?_
                  refine wp_iload rfl rfl ?_
                  refine wp_ifltF (tn := 21) rfl rfl c52 ?_
                  refine wp_iload rfl rfl ?_
                  refine wp_aload rfl rfl ?_
                  refine wp_getI (j := 4) rfl (congrArg Prod.fst (kf_45 X.1)) rfl ?_
                  refine Wp.topI (y := (h 45 4)) (upd2_o (by decide)) ?_
                  refine wp_icgeT (tn := 21) rfl rfl c58 ?_
                  refine wp_iconst rfl ?_
                  refine wp_iret rfl rfl ?_
                  show Wp X _ 213 72 [vr 45, vi x1, vi x2, vi x3, vi ((h 46 (x2 + 1)) - 48)] [vi (-1), vi x1, vr 45] _ _
                  refine wp_iload rfl rfl ?_
                  refine wp_call (k := 215) (ρ2 := 0) (L2 := [vr 45, vi x1, vi (-1), vi ((h 46 (x2 + 1)) - 48)]) rfl rfl rfl (Nat.le_of_ble_eq_true rfl) (Nat.le_of_ble_eq_true rfl) (Nat.le_of_ble_eq_true rfl) (rcv_V rfl (congrArg Prod.fst (kf_45 X.1))) rfl ?_
                  refine wp_iload rfl rfl ?_
                  refine wp_iflt (tn := 24) rfl rfl (fun c60 => ?_) (fun c60 => ?_)
                  · replace H := H.1 c60
                    refine wp_vret rfl rfl ?_
                    show Wp X _ 213 77 [vr 45, vi x1, vi x2, vi x3, vi ((h 46 (x2 + 1)) - 48)] [] _ _
                    refine wp_iload rfl rfl ?_
                    refine wp_iconst rfl ?_
                    refine wp_iadd rfl ?_
                    refine Wp.topI (y := (x2 + 2)) (w32_I (by clear H; unfold R32; omega)) ?_
                    exact wp_iret rfl rfl H
                  · replace H := H.2 c60
                    refine wp_iload rfl rfl ?_
                    refine wp_iconst rfl ?_
                    refine wp_icge (tn := 24) rfl rfl (fun c61 => ?_) (fun c61 => ?_)
                    · replace H := H.1 c61
                      refine wp_vret rfl rfl ?_
                      show Wp X _ 213 77 [vr 45, vi x1, vi x2, vi x3, vi ((h 46 (x2 + 1)) - 48)] [] _ _
                      refine wp_iload rfl rfl ?_
                      refine wp_iconst rfl ?_
                      refine wp_iadd rfl ?_
                      refine Wp.topI (y := (x2 + 2)) (w32_I (by clear H; unfold R32; omega)) ?_
                      exact wp_iret rfl rfl H
                    · replace H := H.2 c61
                      refine wp_aload rfl rfl ?_
                      refine wp_getR (r := 46) rfl (congrArg Prod.fst (kf_45 X.1)) rfl ?_
                      refine wp_iload rfl rfl ?_
                      refine wp_iload rfl rfl ?_
                      refine wp_iastore rfl (kf_47 X.1) ⟨c60, c61⟩ ?_
                      refine wp_aload rfl rfl ?_
                      refine wp_getR (r := 47) rfl (congrArg Prod.fst (kf_45 X.1)) rfl ?_
                      refine wp_iload rfl rfl ?_
                      refine wp_iload rfl rfl ?_
                      refine wp_iastore rfl (kf_48 X.1) ⟨c60, c61⟩ ?_
                      refine wp_vret rfl rfl ?_
                      show Wp X _ 213 77 [vr 45, vi x1, vi x2, vi x3, vi ((h 46 (x2 + 1)) - 48)] [] _ _
                      refine wp_iload rfl rfl ?_
                      refine wp_iconst rfl ?_
                      refine wp_iadd rfl ?_
                      refine Wp.topI (y := (x2 + 2)) (w32_I (by clear H; unfold R32; omega)) ?_
                      exact wp_iret rfl rfl H
                · replace H := H.2 c59
                  refine wp_iload rfl rfl ?_
                  refine wp_goto (tn := 10) rfl rfl ?_
                  refine wp_iret rfl rfl ?_
                  show Wp X _ 213 62 [vr 45, vi x1, vi x2, vi x3, vi ((h 46 (x2 + 1)) - 48)] [vi (h 45 8), vr 45] _ _
                  refine wp_putI (j := 8) rfl (congrArg Prod.fst (kf_45 X.1)) rfl rfl rfl ?_
                  refine wp_aload rfl rfl ?_
                  refine wp_iload rfl rfl ?_
                  refine wp_aload rfl rfl ?_
                  refine wp_iload rfl rfl ?_
                  refine wp_call (k := 218) (ρ2 := 0) (L2 := [vr 45, vi x2]) rfl rfl rfl (Nat.le_of_ble_eq_true rfl) (Nat.le_of_ble_eq_true rfl) (Nat.le_of_ble_eq_true rfl) (rcv_V rfl (congrArg Prod.fst (kf_45 X.1))) rfl ?_
                  refine wp_iload rfl rfl ?_
                  refine wp_ifltF (tn := 21) rfl rfl c52 ?_
                  refine wp_iload rfl rfl ?_
                  refine wp_aload rfl rfl ?_
                  refine wp_getI (j := 4) rfl (congrArg Prod.fst (kf_45 X.1)) rfl ?_
                  refine Wp.topI (y := (h 45 4)) (upd2_o (by decide)) ?_
                  refine wp_icgeT (tn := 21) rfl rfl c58 ?_
                  refine wp_iconst rfl ?_
                  refine wp_iret rfl rfl ?_
                  show Wp X _ 213 72 [vr 45, vi x1, vi x2, vi x3, vi ((h 46 (x2 + 1)) - 48)] [vi (-1), vi x1, vr 45] _ _
                  refine wp_iload rfl rfl ?_
                  refine wp_call (k := 215) (ρ2 := 0) (L2 := [vr 45, vi x1, vi (-1), vi ((h 46 (x2 + 1)) - 48)]) rfl rfl rfl (Nat.le_of_ble_eq_true rfl) (Nat.le_of_ble_eq_true rfl) (Nat.le_of_ble_eq_true rfl) (rcv_V rfl (congrArg Prod.fst (kf_45 X.1))) rfl ?_
                  refine wp_iload rfl rfl ?_
                  refine wp_iflt (tn := 24) rfl rfl (fun c62 => ?_) (fun c62 => ?_)
                  · replace H := H.1 c62
                    refine wp_vret rfl rfl ?_
                    show Wp X _ 213 77 [vr 45, vi x1, vi x2, vi x3, vi ((h 46 (x2 + 1)) - 48)] [] _ _
                    refine wp_iload rfl rfl ?_
                    refine wp_iconst rfl ?_
                    refine wp_iadd rfl ?_
                    refine Wp.topI (y := (x2 + 2)) (w32_I (by clear H; unfold R32; omega)) ?_
                    exact wp_iret rfl rfl H
                  · replace H := H.2 c62
                    refine wp_iload rfl rfl ?_
                    refine wp_iconst rfl ?_
                    refine wp_icge (tn := 24) rfl rfl (fun c63 => ?_) (fun c63 => ?_)
                    · replace H := H.1 c63
                      refine wp_vret rfl rfl ?_
                      show Wp X _ 213 77 [vr 45, vi x1, vi x2, vi x3, vi ((h 46 (x2 + 1)) - 48)] [] _ _
                      refine wp_iload rfl rfl ?_
                      refine wp_iconst rfl ?_
                      refine wp_iadd rfl ?_
                      refine Wp.topI (y := (x2 + 2)) (w32_I (by clear H; unfold R32; omega)) ?_
                      exact wp_iret rfl rfl H
                    · replace H := H.2 c63
                      refine wp_aload rfl rfl ?_
                      refine wp_getR (r := 46) rfl (congrArg Prod.fst (kf_45 X.1)) rfl ?_
                      refine wp_iload rfl rfl ?_
                      refine wp_iload rfl rfl ?_
                      refine wp_iastore rfl (kf_47 X.1) ⟨c62, c63⟩ ?_
                      refine wp_aload rfl rfl ?_
                      refine wp_getR (r := 47) rfl (congrArg Prod.fst (kf_45 X.1)) rfl ?_
                      refine wp_iload rfl rfl ?_
                      refine wp_iload rfl rfl ?_
                      refine wp_iastore rfl (kf_48 X.1) ⟨c62, c63⟩ ?_
                      refine wp_vret rfl rfl ?_
                      show Wp X _ 213 77 [vr 45, vi x1, vi x2, vi x3, vi ((h 46 (x2 + 1)) - 48)] [] _ _
                      refine wp_iload rfl rfl ?_
                      refine wp_iconst rfl ?_
                      refine wp_iadd rfl ?_
                      refine Wp.topI (y := (x2 + 2)) (w32_I (by clear H; unfold R32; omega)) ?_
                      exact wp_iret rfl rfl H
              · replace H := H.2 c58
                refine wp_aload rfl rfl ?_
                refine wp_getR (r := 45) rfl (congrArg Prod.fst (kf_45 X.1)) rfl ?_
                refine wp_iload rfl rfl ?_
                refine wp_iaload rfl (kf_46 X.1) ⟨c52, (by clear H; omega)⟩ ?_
                refine wp_goto (tn := 22) rfl rfl ?_
                refine wp_iret rfl rfl ?_
                show Wp X _ 213 31 [vr 45, vi x1, vi x2, vi x3, vi ((h 46 (x2 + 1)) - 48)] [vi (h 46 x2)] _ _
                refine wp_iconst rfl ?_
                refine wp_icne (tn := 52) rfl rfl (fun c64 => ?_) (fun c64 => ?_)
                · replace H := H.1 c64
                  refine wp_aload rfl rfl ?_
                  refine wp_aload rfl rfl ?_
                  refine wp_getI (j := 8) rfl (congrArg Prod.fst (kf_45 X.1)) rfl ?_
                  refine wp_iload rfl rfl ?_
                  refine wp_call (k := 253) (ρ2 := 0) (L2 := [vi (h 45 8), vi ((h 46 (x2 + 1)) - 48)]) rfl rfl rfl (Nat.le_of_ble_eq_true rfl) (Nat.le_of_ble_eq_true rfl) (Nat.le_of_ble_eq_true rfl) (rcv_S rfl) rfl ?_
                  refine wp_iload rfl rfl ?_
                  refine wp_iload rfl rfl ?_
                  refine wp_icgt (tn := 9) rfl rfl (fun c65 => ?_) (fun c65 => ?_)
                  · replace H := H.1 c65
                    refine wp_iload rfl rfl ?_
                    refine wp_iret rfl rfl ?_
                    show Wp X _ 213 62 [vr 45, vi x1, vi x2, vi x3, vi ((h 46 (x2 + 1)) - 48)] [vi ((h 46 (x2 + 1)) - 48), vr 45] _ _
                    refine wp_putI (j := 8) rfl (congrArg Prod.fst (kf_45 X.1)) rfl rfl rfl ?_
                    refine wp_aload rfl rfl ?_
                    refine wp_iload rfl rfl ?_
                    refine wp_aload rfl rfl ?_
                    refine wp_iload rfl rfl ?_
                    refine wp_call (k := 218) (ρ2 := 0) (L2 := [vr 45, vi x2]) rfl rfl rfl (Nat.le_of_ble_eq_true rfl) (Nat.le_of_ble_eq_true rfl) (Nat.le_of_ble_eq_true rfl) (rcv_V rfl (congrArg Prod.fst (kf_45 X.1))) rfl ?_
                    refine wp_iload rfl rfl ?_
                    refine wp_ifltF (tn := 21) rfl rfl c52 ?_
                    refine wp_iload rfl rfl ?_
                    refine wp_aload rfl rfl ?_
                    refine wp_getI (j := 4) rfl (congrArg Prod.fst (kf_45 X.1)) rfl ?_
                    refine Wp.topI (y := (h 45 4)) (upd2_o (by decide)) ?_
                    refine wp_icgeF (tn := 21) rfl rfl c58 ?_
                    refine wp_aload rfl rfl ?_
                    refine wp_getR (r := 45) rfl (congrArg Prod.fst (kf_45 X.1)) rfl ?_
                    refine wp_iload rfl rfl ?_
                    refine wp_iaload rfl (kf_46 X.1) ⟨c52, (by clear H; omega)⟩ ?_
                    refine Wp.topI (y := (h 46 x2)) (congrFun (upd2_ne (by decide)) _) ?_
                    refine wp_goto (tn := 22) rfl rfl ?_
                    refine wp_iret rfl rfl ?_
                    show Wp X _ 213 72 [vr 45, vi x1, vi x2, vi x3, vi ((h 46 (x2 + 1)) - 48)] [vi (h 46 x2), vi x1, vr 45] _ _
                    refine wp_iload rfl rfl ?_
                    refine wp_call (k := 215) (ρ2 := 0) (L2 := [vr 45, vi x1, vi (h 46 x2), vi ((h 46 (x2 + 1)) - 48)]) rfl rfl rfl (Nat.le_of_ble_eq_true rfl) (Nat.le_of_ble_eq_true rfl) (Nat.le_of_ble_eq_true rfl) (rcv_V rfl (congrArg Prod.fst (kf_45 X.1))) rfl ?_
                    refine wp_iload rfl rfl ?_
                    refine wp_iflt (tn := 24) rfl rfl (fun c66 => ?_) (fun c66 => ?_)
                    · replace H := H.1 c66
                      refine wp_vret rfl rfl ?_
                      show Wp X _ 213 77 [vr 45, vi x1, vi x2, vi x3, vi ((h 46 (x2 + 1)) - 48)] [] _ _
                      refine wp_iload rfl rfl ?_
                      refine wp_iconst rfl ?_
                      refine wp_iadd rfl ?_
                      refine Wp.topI (y := (x2 + 2)) (w32_I (by clear H; unfold R32; omega)) ?_
                      exact wp_iret rfl rfl H
                    · replace H := H.2 c66
                      refine wp_iload rfl rfl ?_
                      refine wp_iconst rfl ?_
                      refine wp_icge (tn := 24) rfl rfl (fun c67 => ?_) (fun c67 => ?_)
                      · replace H := H.1 c67
                        refine wp_vret rfl rfl ?_
                        show Wp X _ 213 77 [vr 45, vi x1, vi x2, vi x3, vi ((h 46 (x2 + 1)) - 48)] [] _ _
                        refine wp_iload rfl rfl ?_
                        refine wp_iconst rfl ?_
                        refine wp_iadd rfl ?_
                        refine Wp.topI (y := (x2 + 2)) (w32_I (by clear H; unfold R32; omega)) ?_
                        exact wp_iret rfl rfl H
                      · replace H := H.2 c67
                        refine wp_aload rfl rfl ?_
                        refine wp_getR (r := 46) rfl (congrArg Prod.fst (kf_45 X.1)) rfl ?_
                        refine wp_iload rfl rfl ?_
                        refine wp_iload rfl rfl ?_
                        refine wp_iastore rfl (kf_47 X.1) ⟨c66, c67⟩ ?_
                        refine wp_aload rfl rfl ?_
                        refine wp_getR (r := 47) rfl (congrArg Prod.fst (kf_45 X.1)) rfl ?_
                        refine wp_iload rfl rfl ?_
                        refine wp_iload rfl rfl ?_
                        refine wp_iastore rfl (kf_48 X.1) ⟨c66, c67⟩ ?_
                        refine wp_vret rfl rfl ?_
                        show Wp X _ 213 77 [vr 45, vi x1, vi x2, vi x3, vi ((h 46 (x2 + 1)) - 48)] [] _ _
                        refine wp_iload rfl rfl ?_
                        refine wp_iconst rfl ?_
                        refine wp_iadd rfl ?_
                        refine Wp.topI (y := (x2 + 2)) (w32_I (by clear H; unfold R32; omega)) ?_
                        exact wp_iret rfl rfl H
                  · replace H := H.2 c65
                    refine wp_iload rfl rfl ?_
                    refine wp_goto (tn := 10) rfl rfl ?_
                    refine wp_iret rfl rfl ?_
                    show Wp X _ 213 62 [vr 45, vi x1, vi x2, vi x3, vi ((h 46 (x2 + 1)) - 48)] [vi (h 45 8), vr 45] _ _
                    refine wp_putI (j := 8) rfl (congrArg Prod.fst (kf_45 X.1)) rfl rfl rfl ?_
                    refine wp_aload rfl rfl ?_
                    refine wp_iload rfl rfl ?_
                    refine wp_aload rfl rfl ?_
                    refine wp_iload rfl rfl ?_
                    refine wp_call (k := 218) (ρ2 := 0) (L2 := [vr 45, vi x2]) rfl rfl rfl (Nat.le_of_ble_eq_true rfl) (Nat.le_of_ble_eq_true rfl) (Nat.le_of_ble_eq_true rfl) (rcv_V rfl (congrArg Prod.fst (kf_45 X.1))) rfl ?_
                    refine wp_iload rfl rfl ?_
                    refine wp_ifltF (tn := 21) rfl rfl c52 ?_
                    refine wp_iload rfl rfl ?_
                    refine wp_aload rfl rfl ?_
                    refine wp_getI (j := 4) rfl (congrArg Prod.fst (kf_45 X.1)) rfl ?_
                    refine Wp.topI (y := (h 45 4)) (upd2_o (by decide)) ?_
                    refine wp_icgeF (tn := 21) rfl rfl c58 ?_
                    refine wp_aload rfl rfl ?_
                    refine wp_getR (r := 45) rfl (congrArg Prod.fst (kf_45 X.1)) rfl ?_
                    refine wp_iload rfl rfl ?_
                    refine wp_iaload rfl (kf_46 X.1) ⟨c52, (by clear H; omega)⟩ ?_
                    refine Wp.topI (y := (h 46 x2)) (congrFun (upd2_ne (by decide)) _) ?_
                    refine wp_goto (tn := 22) rfl rfl ?_
                    refine wp_iret rfl rfl ?_
                    show Wp X _ 213 72 [vr 45, vi x1, vi x2, vi x3, vi ((h 46 (x2 + 1)) - 48)] [vi (h 46 x2), vi x1, vr 45] _ _
                    refine wp_iload rfl rfl ?_
                    refine wp_call (k := 215) (ρ2 := 0) (L2 := [vr 45, vi x1, vi (h 46 x2), vi ((h 46 (x2 + 1)) - 48)]) rfl rfl rfl (Nat.le_of_ble_eq_true rfl) (Nat.le_of_ble_eq_true rfl) (Nat.le_of_ble_eq_true rfl) (rcv_V rfl (congrArg Prod.fst (kf_45 X.1))) rfl ?_
                    refine wp_iload rfl rfl ?_
                    refine wp_iflt (tn := 24) rfl rfl (fun c68 => ?_) (fun c68 => ?_)
                    · replace H := H.1 c68
                      refine wp_vret rfl rfl ?_
                      show Wp X _ 213 77 [vr 45, vi x1, vi x2, vi x3, vi ((h 46 (x2 + 1)) - 48)] [] _ _
                      refine wp_iload rfl rfl ?_
                      refine wp_iconst rfl ?_
                      refine wp_iadd rfl ?_
                      refine Wp.topI (y := (x2 + 2)) (w32_I (by clear H; unfold R32; omega)) ?_
                      exact wp_iret rfl rfl H
                    · replace H := H.2 c68
                      refine wp_iload rfl rfl ?_
                      refine wp_iconst rfl ?_
                      refine wp_icge (tn := 24) rfl rfl (fun c69 => ?_) (fun c69 => ?_)
                      · replace H := H.1 c69
                        refine wp_vret rfl rfl ?_
                        show Wp X _ 213 77 [vr 45, vi x1, vi x2, vi x3, vi ((h 46 (x2 + 1)) - 48)] [] _ _
                        refine wp_iload rfl rfl ?_
                        refine wp_iconst rfl ?_
                        refine wp_iadd rfl ?_
                        refine Wp.topI (y := (x2 + 2)) (w32_I (by clear H; unfold R32; omega)) ?_
                        exact wp_iret rfl rfl H
                      · replace H := H.2 c69
                        refine wp_aload rfl rfl ?_
                        refine wp_getR (r := 46) rfl (congrArg Prod.fst (kf_45 X.1)) rfl ?_
                        refine wp_iload rfl rfl ?_
                        refine wp_iload rfl rfl ?_
                        refine wp_iastore rfl (kf_47 X.1) ⟨c68, c69⟩ ?_
                        refine wp_aload rfl rfl ?_
                        refine wp_getR (r := 47) rfl (congrArg Prod.fst (kf_45 X.1)) rfl ?_
                        refine wp_iload rfl rfl ?_
                        refine wp_iload rfl rfl ?_
                        refine wp_iastore rfl (kf_48 X.1) ⟨c68, c69⟩ ?_
                        refine wp_vret rfl rfl ?_
                        show Wp X _ 213 77 [vr 45, vi x1, vi x2, vi x3, vi ((h 46 (x2 + 1)) - 48)] [] _ _
                        refine wp_iload rfl rfl ?_
                        refine wp_iconst rfl ?_
                        refine wp_iadd rfl ?_
                        refine Wp.topI (y := (x2 + 2)) (w32_I (by clear H; unfold R32; omega)) ?_
                        exact wp_iret rfl rfl H
                · replace H := H.2 c64
                  refine wp_aload rfl rfl ?_
                  refine wp_aload rfl rfl ?_
                  refine wp_getI (j := 7) rfl (congrArg Prod.fst (kf_45 X.1)) rfl ?_
                  refine wp_iload rfl rfl ?_
                  refine wp_call (k := 253) (ρ2 := 0) (L2 := [vi (h 45 7), vi ((h 46 (x2 + 1)) - 48)]) rfl rfl rfl (Nat.le_of_ble_eq_true rfl) (Nat.le_of_ble_eq_true rfl) (Nat.le_of_ble_eq_true rfl) (rcv_S rfl) rfl ?_
                  refine wp_iload rfl rfl ?_
                  refine wp_iload rfl rfl ?_
                  refine wp_icgt (tn := 9) rfl rfl (fun c70 => ?_) (fun c70 => ?_)
                  · replace H := H.1 c70
                    refine wp_iload rfl rfl ?_
                    refine wp_iret rfl rfl ?_
                    show Wp X _ 213 46 [vr 45, vi x1, vi x2, vi x3, vi ((h 46 (x2 + 1)) - 48)] [vi ((h 46 (x2 + 1)) - 48), vr 45] _ _
                    refine wp_putI (j := 7) rfl (congrArg Prod.fst (kf_45 X.1)) rfl rfl rfl ?_
                    refine wp_goto (tn := 65) rfl rfl ?_
                    refine wp_aload rfl rfl ?_
                    refine wp_iload rfl rfl ?_
                    refine wp_aload rfl rfl ?_
                    refine wp_iload rfl rfl ?_
                    refine wp_call (k := 218) (ρ2 := 0) (L2 := [vr 45, vi x2]) rfl rfl rfl (Nat.le_of_ble_eq_true rfl) (Nat.le_of_ble_eq_true rfl) (Nat.le_of_ble_eq_true rfl) (rcv_V rfl (congrArg Prod.fst (kf_45 X.1))) rfl ?_
                    refine wp_iload rfl rfl ?_
                    refine wp_ifltF (tn := 21) rfl rfl c52 ?_
                    refine wp_iload rfl rfl ?_
                    refine wp_aload rfl rfl ?_
                    refine wp_getI (j := 4) rfl (congrArg Prod.fst (kf_45 X.1)) rfl ?_
                    refine Wp.topI (y := (h 45 4)) (upd2_o (by decide)) ?_
                    refine wp_icgeF (tn := 21) rfl rfl c58 ?_
                    refine wp_aload rfl rfl ?_
                    refine wp_getR (r := 45) rfl (congrArg Prod.fst (kf_45 X.1)) rfl ?_
                    refine wp_iload rfl rfl ?_
                    refine wp_iaload rfl (kf_46 X.1) ⟨c52, (by clear H; omega)⟩ ?_
                    refine Wp.topI (y := (h 46 x2)) (congrFun (upd2_ne (by decide)) _) ?_
                    refine wp_goto (tn := 22) rfl rfl ?_
                    refine wp_iret rfl rfl ?_
                    show Wp X _ 213 72 [vr 45, vi x1, vi x2, vi x3, vi ((h 46 (x2 + 1)) - 48)] [vi (h 46 x2), vi x1, vr 45] _ _
                    refine wp_iload rfl rfl ?_
                    refine wp_call (k := 215) (ρ2 := 0) (L2 := [vr 45, vi x1, vi (h 46 x2), vi ((h 46 (x2 + 1)) - 48)]) rfl rfl rfl (Nat.le_of_ble_eq_true rfl) (Nat.le_of_ble_eq_true rfl) (Nat.le_of_ble_eq_true rfl) (rcv_V rfl (congrArg Prod.fst (kf_45 X.1))) rfl ?_
                    refine wp_iload rfl rfl ?_
                    refine wp_iflt (tn := 24) rfl rfl (fun c71 => ?_) (fun c71 => ?_)
                    · replace H := H.1 c71
                      refine wp_vret rfl rfl ?_
                      show Wp X _ 213 77 [vr 45, vi x1, vi x2, vi x3, vi ((h 46 (x2 + 1)) - 48)] [] _ _
                      refine wp_iload rfl rfl ?_
                      refine wp_iconst rfl ?_
                      refine wp_iadd rfl ?_
                      refine Wp.topI (y := (x2 + 2)) (w32_I (by clear H; unfold R32; omega)) ?_
                      exact wp_iret rfl rfl H
                    · replace H := H.2 c71
                      refine wp_iload rfl rfl ?_
                      refine wp_iconst rfl ?_
                      refine wp_icge (tn := 24) rfl rfl (fun c72 => ?_) (fun c72 => ?_)
                      · replace H := H.1 c72
                        refine wp_vret rfl rfl ?_
                        show Wp X _ 213 77 [vr 45, vi x1, vi x2, vi x3, vi ((h 46 (x2 + 1)) - 48)] [] _ _
                        refine wp_iload rfl rfl ?_
                        refine wp_iconst rfl ?_
                        refine wp_iadd rfl ?_
                        refine Wp.topI (y := (x2 + 2)) (w32_I (by clear H; unfold R32; omega)) ?_
                        exact wp_iret rfl rfl H
                      · replace H := H.2 c72
                        refine wp_aload rfl rfl ?_
                        refine wp_getR (r := 46) rfl (congrArg Prod.fst (kf_45 X.1)) rfl ?_
                        refine wp_iload rfl rfl ?_
                        refine wp_iload rfl rfl ?_
                        refine wp_iastore rfl (kf_47 X.1) ⟨c71, c72⟩ ?_
                        refine wp_aload rfl rfl ?_
                        refine wp_getR (r := 47) rfl (congrArg Prod.fst (kf_45 X.1)) rfl ?_
                        refine wp_iload rfl rfl ?_
                        refine wp_iload rfl rfl ?_
                        refine wp_iastore rfl (kf_48 X.1) ⟨c71, c72⟩ ?_
                        refine wp_vret rfl rfl ?_
                        show Wp X _ 213 77 [vr 45, vi x1, vi x2, vi x3, vi ((h 46 (x2 + 1)) - 48)] [] _ _
                        refine wp_iload rfl rfl ?_
                        refine wp_iconst rfl ?_
                        refine wp_iadd rfl ?_
                        refine Wp.topI (y := (x2 + 2)) (w32_I (by clear H; unfold R32; omega)) ?_
                        exact wp_iret rfl rfl H
                  · replace H := H.2 c70
                    refine wp_iload rfl rfl ?_
                    refine wp_goto (tn := 10) rfl rfl ?_
                    refine wp_iret rfl rfl ?_
                    show Wp X _ 213 46 [vr 45, vi x1, vi x2, vi x3, vi ((h 46 (x2 + 1)) - 48)] [vi (h 45 7), vr 45] _ _
                    refine wp_putI (j := 7) rfl (congrArg Prod.fst (kf_45 X.1)) rfl rfl rfl ?_
                    refine wp_goto (tn := 65) rfl rfl ?_
                    refine wp_aload rfl rfl ?_
                    refine wp_iload rfl rfl ?_
                    refine wp_aload rfl rfl ?_
                    refine wp_iload rfl rfl ?_
                    refine wp_call (k := 218) (ρ2 := 0) (L2 := [vr 45, vi x2]) rfl rfl rfl (Nat.le_of_ble_eq_true rfl) (Nat.le_of_ble_eq_true rfl) (Nat.le_of_ble_eq_true rfl) (rcv_V rfl (congrArg Prod.fst (kf_45 X.1))) rfl ?_
                    refine wp_iload rfl rfl ?_
                    refine wp_ifltF (tn := 21) rfl rfl c52 ?_
                    refine wp_iload rfl rfl ?_
                    refine wp_aload rfl rfl ?_
                    refine wp_getI (j := 4) rfl (congrArg Prod.fst (kf_45 X.1)) rfl ?_
                    refine Wp.topI (y := (h 45 4)) (upd2_o (by decide)) ?_
                    refine wp_icgeF (tn := 21) rfl rfl c58 ?_
                    refine wp_aload rfl rfl ?_
                    refine wp_getR (r := 45) rfl (congrArg Prod.fst (kf_45 X.1)) rfl ?_
                    refine wp_iload rfl rfl ?_
                    refine wp_iaload rfl (kf_46 X.1) ⟨c52, (by clear H; omega)⟩ ?_
                    refine Wp.topI (y := (h 46 x2)) (congrFun (upd2_ne (by decide)) _) ?_
                    refine wp_goto (tn := 22) rfl rfl ?_
                    refine wp_iret rfl rfl ?_
                    show Wp X _ 213 72 [vr 45, vi x1, vi x2, vi x3, vi ((h 46 (x2 + 1)) - 48)] [vi (h 46 x2), vi x1, vr 45] _ _
                    refine wp_iload rfl rfl ?_
                    refine wp_call (k := 215) (ρ2 := 0) (L2 := [vr 45, vi x1, vi (h 46 x2), vi ((h 46 (x2 + 1)) - 48)]) rfl rfl rfl (Nat.le_of_ble_eq_true rfl) (Nat.le_of_ble_eq_true rfl) (Nat.le_of_ble_eq_true rfl) (rcv_V rfl (congrArg Prod.fst (kf_45 X.1))) rfl ?_
                    refine wp_iload rfl rfl ?_
                    refine wp_iflt (tn := 24) rfl rfl (fun c73 => ?_) (fun c73 => ?_)
                    · replace H := H.1 c73
                      refine wp_vret rfl rfl ?_
                      show Wp X _ 213 77 [vr 45, vi x1, vi x2, vi x3, vi ((h 46 (x2 + 1)) - 48)] [] _ _
                      refine wp_iload rfl rfl ?_
                      refine wp_iconst rfl ?_
                      refine wp_iadd rfl ?_
                      refine Wp.topI (y := (x2 + 2)) (w32_I (by clear H; unfold R32; omega)) ?_
                      exact wp_iret rfl rfl H
                    · replace H := H.2 c73
                      refine wp_iload rfl rfl ?_
                      refine wp_iconst rfl ?_
                      refine wp_icge (tn := 24) rfl rfl (fun c74 => ?_) (fun c74 => ?_)
                      · replace H := H.1 c74
                        refine wp_vret rfl rfl ?_
                        show Wp X _ 213 77 [vr 45, vi x1, vi x2, vi x3, vi ((h 46 (x2 + 1)) - 48)] [] _ _
                        refine wp_iload rfl rfl ?_
                        refine wp_iconst rfl ?_
                        refine wp_iadd rfl ?_
                        refine Wp.topI (y := (x2 + 2)) (w32_I (by clear H; unfold R32; omega)) ?_
                        exact wp_iret rfl rfl H
                      · replace H := H.2 c74
                        refine wp_aload rfl rfl ?_
                        refine wp_getR (r := 46) rfl (congrArg Prod.fst (kf_45 X.1)) rfl ?_
                        refine wp_iload rfl rfl ?_
                        refine wp_iload rfl rfl ?_
                        refine wp_iastore rfl (kf_47 X.1) ⟨c73, c74⟩ ?_
                        refine wp_aload rfl rfl ?_
                        refine wp_getR (r := 47) rfl (congrArg Prod.fst (kf_45 X.1)) rfl ?_
                        refine wp_iload rfl rfl ?_
                        refine wp_iload rfl rfl ?_
                        refine wp_iastore rfl (kf_48 X.1) ⟨c73, c74⟩ ?_
                        refine wp_vret rfl rfl ?_
                        show Wp X _ 213 77 [vr 45, vi x1, vi x2, vi x3, vi ((h 46 (x2 + 1)) - 48)] [] _ _
                        refine wp_iload rfl rfl ?_
                        refine wp_iconst rfl ?_
                        refine wp_iadd rfl ?_
                        refine Wp.topI (y := (x2 + 2)) (w32_I (by clear H; unfold R32; omega)) ?_
                        exact wp_iret rfl rfl H
          · replace H := H.2 c51
            refine wp_aload rfl rfl ?_
            refine wp_iload rfl rfl ?_
            refine wp_iconst rfl ?_
            refine wp_iadd rfl ?_
            refine Wp.topI (y := (x2 + 1)) (w32_I (by clear H; unfold R32; omega)) ?_
            refine wp_call (k := 216) (ρ2 := 0) (L2 := [vr 45, vi (x2 + 1)]) rfl rfl rfl (Nat.le_of_ble_eq_true rfl) (Nat.le_of_ble_eq_true rfl) (Nat.le_of_ble_eq_true rfl) (rcv_V rfl (congrArg Prod.fst (kf_45 X.1))) rfl ?_
            refine wp_aload rfl rfl ?_
            refine wp_iload rfl rfl ?_
            refine wp_putI (j := 6) rfl (congrArg Prod.fst (kf_45 X.1)) rfl rfl rfl ?_
            refine wp_iload rfl rfl ?_
            refine wp_iret rfl rfl ?_
            show Wp X _ 213 25 [vr 45, vi x1, vi x2, vi x3, vi ((h 46 (x2 + 1)) - 48)] [vi (x2 + 1)] _ _
            exact wp_iret rfl rfl H
        · replace H := H.2 c50
          refine wp_iconst rfl ?_
          refine wp_goto (tn := 28) rfl rfl ?_
          refine wp_iret rfl rfl ?_
          show Wp X _ 213 10 [vr 45, vi x1, vi x2, vi x3, vu] [vi (-1)] _ _
          refine wp_istore (L2 := [vr 45, vi x1, vi x2, vi x3, vi (-1)]) rfl (Nat.le_of_ble_eq_true rfl) rfl ?_
          refine wp_iload rfl rfl ?_
          refine wp_iconst rfl ?_
          refine wp_icneF (tn := 26) rfl rfl (by decide) ?_
          refine wp_aload rfl rfl ?_
          refine wp_iload rfl rfl ?_
          refine wp_iconst rfl ?_
          refine wp_iadd rfl ?_
          refine Wp.topI (y := (x2 + 1)) (w32_I (by clear H; unfold R32; omega)) ?_
          refine wp_call (k := 216) (ρ2 := 0) (L2 := [vr 45, vi (x2 + 1)]) rfl rfl rfl (Nat.le_of_ble_eq_true rfl) (Nat.le_of_ble_eq_true rfl) (Nat.le_of_ble_eq_true rfl) (rcv_V rfl (congrArg Prod.fst (kf_45 X.1))) rfl ?_
          refine wp_aload rfl rfl ?_
          refine wp_iload rfl rfl ?_
          refine wp_putI (j := 6) rfl (congrArg Prod.fst (kf_45 X.1)) rfl rfl rfl ?_
          refine wp_iload rfl rfl ?_
          refine wp_iret rfl rfl ?_
          show Wp X _ 213 25 [vr 45, vi x1, vi x2, vi x3, vi (-1)] [vi (x2 + 1)] _ _
          exact wp_iret rfl rfl H
/-- RuleText.readRunRule(III)I, from 0 -/
theorem S213_53_0 {X : Nat × (Int → Int)} {h : HP} {Q : bQ} (x1 : Int) (x2 : Int) (x3 : Int) (H : ((R32 (x2 + 1)) ∧ (((x2 + 1) < 0 → (((-49) < x3 → Q (some (vi (x2 + 1))) (upd2 h 53 6 (x2 + 1))) ∧ (x3 ≤ (-49) → (((-49) < (h 53 8) → ((x1 < 0 → ((R32 (x2 + 2)) ∧ Q (some (vi (x2 + 2))) (upd2 h 53 8 (-49)))) ∧ (0 ≤ x1 → ((8 ≤ x1 → ((R32 (x2 + 2)) ∧ Q (some (vi (x2 + 2))) (upd2 h 53 8 (-49)))) ∧ (x1 < 8 → ((R32 (x2 + 2)) ∧ Q (some (vi (x2 + 2))) (upd2 (upd2 (upd2 h 53 8 (-49)) 55 x1 (-1)) 56 x1 (-49)))))))) ∧ ((h 53 8) ≤ (-49) → ((x1 < 0 → ((R32 (x2 + 2)) ∧ Q (some (vi (x2 + 2))) (upd2 h 53 8 (h 53 8)))) ∧ (0 ≤ x1 → ((8 ≤ x1 → ((R32 (x2 + 2)) ∧ Q (some (vi (x2 + 2))) (upd2 h 53 8 (h 53 8)))) ∧ (x1 < 8 → ((R32 (x2 + 2)) ∧ Q (some (vi (x2 + 2))) (upd2 (upd2 (upd2 h 53 8 (h 53 8)) 55 x1 (-1)) 56 x1 (-49)))))))))))) ∧ (0 ≤ (x2 + 1) → (((h 53 4) ≤ (x2 + 1) → (((-49) < x3 → Q (some (vi (x2 + 1))) (upd2 h 53 6 (x2 + 1))) ∧ (x3 ≤ (-49) → ((x2 < 0 → (((-49) < (h 53 8) → ((x1 < 0 → Q (some (vi (x2 + 2))) (upd2 h 53 8 (-49))) ∧ (0 ≤ x1 → ((8 ≤ x1 → Q (some (vi (x2 + 2))) (upd2 h 53 8 (-49))) ∧ (x1 < 8 → Q (some (vi (x2 + 2))) (upd2 (upd2 (upd2 h 53 8 (-49)) 55 x1 (-1)) 56 x1 (-49))))))) ∧ ((h 53 8) ≤ (-49) → ((x1 < 0 → Q (some (vi (x2 + 2))) (upd2 h 53 8 (h 53 8))) ∧ (0 ≤ x1 → ((8 ≤ x1 → Q (some (vi (x2 + 2))) (upd2 h 53 8 (h 53 8))) ∧ (x1 < 8 → Q (some (vi (x2 + 2))) (upd2 (upd2 (upd2 h 53 8 (h 53 8)) 55 x1 (-1)) 56 x1 (-49))))))))) ∧ (0 ≤ x2 → (((h 53 4) ≤ x2 → (((-49) < (h 53 8) → ((x1 < 0 → ((R32 (x2 + 2)) ∧ Q (some (vi (x2 + 2))) (upd2 h 53 8 (-49)))) ∧ (0 ≤ x1 → ((8 ≤ x1 → ((R32 (x2 + 2)) ∧ Q (some (vi (x2 + 2))) (upd2 h 53 8 (-49)))) ∧ (x1 < 8 → ((R32 (x2 + 2)) ∧ Q (some (vi (x2 + 2))) (upd2 (upd2 (upd2 h 53 8 (-49)) 55 x1 (-1)) 56 x1 (-49)))))))) ∧ ((h 53 8) ≤ (-49) → ((x1 < 0 → ((R32 (x2 + 2)) ∧ Q (some (vi (x2 + 2))) (upd2 h 53 8 (h 53 8)))) ∧ (0 ≤ x1 → ((8 ≤ x1 → ((R32 (x2 + 2)) ∧ Q (some (vi (x2 + 2))) (upd2 h 53 8 (h 53 8)))) ∧ (x1 < 8 → ((R32 (x2 + 2)) ∧ Q (some (vi (x2 + 2))) (upd2 (upd2 (upd2 h 53 8 (h 53 8)) 55 x1 (-1)) 56 x1 (-49)))))))))) ∧ (x2 < (h 53 4) → ((0 ≤ x2 ∧ x2 < 50) ∧ (((h 54 x2) ≠ 114 → (((-49) < (h 53 8) → ((x1 < 0 → Q (some (vi (x2 + 2))) (upd2 h 53 8 (-49))) ∧ (0 ≤ x1 → ((8 ≤ x1 → Q (some (vi (x2 + 2))) (upd2 h 53 8 (-49))) ∧ (x1 < 8 → Q (some (vi (x2 + 2))) (upd2 (upd2 (upd2 h 53 8 (-49)) 55 x1 (h 54 x2)) 56 x1 (-49))))))) ∧ ((h 53 8) ≤ (-49) → ((x1 < 0 → Q (some (vi (x2 + 2))) (upd2 h 53 8 (h 53 8))) ∧ (0 ≤ x1 → ((8 ≤ x1 → Q (some (vi (x2 + 2))) (upd2 h 53 8 (h 53 8))) ∧ (x1 < 8 → Q (some (vi (x2 + 2))) (upd2 (upd2 (upd2 h 53 8 (h 53 8)) 55 x1 (h 54 x2)) 56 x1 (-49))))))))) ∧ ((h 54 x2) = 114 → (((-49) < (h 53 7) → ((x1 < 0 → Q (some (vi (x2 + 2))) (upd2 h 53 7 (-49))) ∧ (0 ≤ x1 → ((8 ≤ x1 → Q (some (vi (x2 + 2))) (upd2 h 53 7 (-49))) ∧ (x1 < 8 → Q (some (vi (x2 + 2))) (upd2 (upd2 (upd2 h 53 7 (-49)) 55 x1 (h 54 x2)) 56 x1 (-49))))))) ∧ ((h 53 7) ≤ (-49) → ((x1 < 0 → Q (some (vi (x2 + 2))) (upd2 h 53 7 (h 53 7))) ∧ (0 ≤ x1 → ((8 ≤ x1 → Q (some (vi (x2 + 2))) (upd2 h 53 7 (h 53 7))) ∧ (x1 < 8 → Q (some (vi (x2 + 2))) (upd2 (upd2 (upd2 h 53 7 (h 53 7)) 55 x1 (h 54 x2)) 56 x1 (-49)))))))))))))))))) ∧ ((x2 + 1) < (h 53 4) → ((0 ≤ (x2 + 1) ∧ (x2 + 1) < 50) ∧ ((R32 ((h 54 (x2 + 1)) - 48)) ∧ ((((h 54 (x2 + 1)) - 48) < x3 → Q (some (vi (x2 + 1))) (upd2 h 53 6 (x2 + 1))) ∧ (x3 ≤ ((h 54 (x2 + 1)) - 48) → ((((h 54 (x2 + 1)) - 48) ≤ 9 → ((((h 54 (x2 + 1)) - 48) ≠ (-1) → ((x2 < 0 → ((((h 54 (x2 + 1)) - 48) < (h 53 8) → ((x1 < 0 → Q (some (vi (x2 + 2))) (upd2 h 53 8 ((h 54 (x2 + 1)) - 48))) ∧ (0 ≤ x1 → ((8 ≤ x1 → Q (some (vi (x2 + 2))) (upd2 h 53 8 ((h 54 (x2 + 1)) - 48))) ∧ (x1 < 8 → Q (some (vi (x2 + 2))) (upd2 (upd2 (upd2 h 53 8 ((h 54 (x2 + 1)) - 48)) 55 x1 (-1)) 56 x1 ((h 54 (x2 + 1)) - 48))))))) ∧ ((h 53 8) ≤ ((h 54 (x2 + 1)) - 48) → ((x1 < 0 → Q (some (vi (x2 + 2))) (upd2 h 53 8 (h 53 8))) ∧ (0 ≤ x1 → ((8 ≤ x1 → Q (some (vi (x2 + 2))) (upd2 h 53 8 (h 53 8))) ∧ (x1 < 8 → Q (some (vi (x2 + 2))) (upd2 (upd2 (upd2 h 53 8 (h 53 8)) 55 x1 (-1)) 56 x1 ((h 54 (x2 + 1)) - 48))))))))) ∧ (0 ≤ x2 → (((h 53 4) ≤ x2 → ((((h 54 (x2 + 1)) - 48) < (h 53 8) → ((x1 < 0 → Q (some (vi (x2 + 2))) (upd2 h 53 8 ((h 54 (x2 + 1)) - 48))) ∧ (0 ≤ x1 → ((8 ≤ x1 → Q (some (vi (x2 + 2))) (upd2 h 53 8 ((h 54 (x2 + 1)) - 48))) ∧ (x1 < 8 → Q (some (vi (x2 + 2))) (upd2 (upd2 (upd2 h 53 8 ((h 54 (x2 + 1)) - 48)) 55 x1 (-1)) 56 x1 ((h 54 (x2 + 1)) - 48))))))) ∧ ((h 53 8) ≤ ((h 54 (x2 + 1)) - 48) → ((x1 < 0 → Q (some (vi (x2 + 2))) (upd2 h 53 8 (h 53 8))) ∧ (0 ≤ x1 → ((8 ≤ x1 → Q (some (vi (x2 + 2))) (upd2 h 53 8 (h 53 8))) ∧ (x1 < 8 → Q (some (vi (x2 + 2))) (upd2 (upd2 (upd2 h 53 8 (h 53 8)) 55 x1 (-1)) 56 x1 ((h 54 (x2 + 1)) - 48))))))))) ∧ (x2 < (h 53 4) → (((h 54 x2) ≠ 114 → ((((h 54 (x2 + 1)) - 48) < (h 53 8) → ((x1 < 0 → Q (some (vi (x2 + 2))) (upd2 h 53 8 ((h 54 (x2 + 1)) - 48))) ∧ (0 ≤ x1 → ((8 ≤ x1 → Q (some (vi (x2 + 2))) (upd2 h 53 8 ((h 54 (x2 + 1)) - 48))) ∧ (x1 < 8 → Q (some (vi (x2 + 2))) (upd2 (upd2 (upd2 h 53 8 ((h 54 (x2 + 1)) - 48)) 55 x1 (h 54 x2)) 56 x1 ((h 54 (x2 + 1)) - 48))))))) ∧ ((h 53 8) ≤ ((h 54 (x2 + 1)) - 48) → ((x1 < 0 → Q (some (vi (x2 + 2))) (upd2 h 53 8 (h 53 8))) ∧ (0 ≤ x1 → ((8 ≤ x1 → Q (some (vi (x2 + 2))) (upd2 h 53 8 (h 53 8))) ∧ (x1 < 8 → Q (some (vi (x2 + 2))) (upd2 (upd2 (upd2 h 53 8 (h 53 8)) 55 x1 (h 54 x2)) 56 x1 ((h 54 (x2 + 1)) - 48))))))))) ∧ ((h 54 x2) = 114 → ((((h 54 (x2 + 1)) - 48) < (h 53 7) → ((x1 < 0 → Q (some (vi (x2 + 2))) (upd2 h 53 7 ((h 54 (x2 + 1)) - 48))) ∧ (0 ≤ x1 → ((8 ≤ x1 → Q (some (vi (x2 + 2))) (upd2 h 53 7 ((h 54 (x2 + 1)) - 48))) ∧ (x1 < 8 → Q (some (vi (x2 + 2))) (upd2 (upd2 (upd2 h 53 7 ((h 54 (x2 + 1)) - 48)) 55 x1 (h 54 x2)) 56 x1 ((h 54 (x2 + 1)) - 48))))))) ∧ ((h 53 7) ≤ ((h 54 (x2 + 1)) - 48) → ((x1 < 0 → Q (some (vi (x2 + 2))) (upd2 h 53 7 (h 53 7))) ∧ (0 ≤ x1 → ((8 ≤ x1 → Q (some (vi (x2 + 2))) (upd2 h 53 7 (h 53 7))) ∧ (x1 < 8 → Q (some (vi (x2 + 2))) (upd2 (upd2 (upd2 h 53 7 (h 53 7)) 55 x1 (h 54 x2)) 56 x1 ((h 54 (x2 + 1)) - 48))))))))))))))) ∧ (((h 54 (x2 + 1)) - 48) = (-1) → Q (some (vi (x2 + 1))) (upd2 h 53 6 (x2 + 1))))) ∧ (9 < ((h 54 (x2 + 1)) - 48) → Q (some (vi (x2 + 1))) (upd2 h 53 6 (x2 + 1)))))))))))))) : Wp X 2 213 0 [vr 53, vi x1, vi x2, vi x3, vu] [] h Q := by
  refine wp_aload rfl rfl ?_
  refine wp_iload rfl rfl ?_
  refine wp_iconst rfl ?_
  refine wp_iadd rfl ?_
  have g1 := H.1
  replace H := H.2
  refine Wp.topI (y := (x2 + 1)) (w32_I g1) ?_
  refine wp_iload rfl rfl ?_
  refine wp_iconst rfl ?_
  refine wp_call (k := 217) (ρ2 := 1) (L2 := [vr 53, vi (x2 + 1), vi x3, vi 9, vu]) rfl rfl rfl (Nat.le_of_ble_eq_true rfl) (Nat.le_of_ble_eq_true rfl) (Nat.le_of_ble_eq_true rfl) (rcv_V rfl (congrArg Prod.fst (kf_53 X.1))) rfl ?_
  refine wp_aload rfl rfl ?_
  refine wp_iload rfl rfl ?_
  refine wp_call (k := 218) (ρ2 := 0) (L2 := [vr 53, vi (x2 + 1)]) rfl rfl rfl (Nat.le_of_ble_eq_true rfl) (Nat.le_of_ble_eq_true rfl) (Nat.le_of_ble_eq_true rfl) (rcv_V rfl (congrArg Prod.fst (kf_53 X.1))) rfl ?_
  refine wp_iload rfl rfl ?_
  refine wp_iflt (tn := 21) rfl rfl (fun c2 => ?_) (fun c2 => ?_)
  · replace H := H.1 c2
    refine wp_iconst rfl ?_
    refine wp_iret rfl rfl ?_
    show Wp X _ 217 5 [vr 53, vi (x2 + 1), vi x3, vi 9, vu] [vi (-1)] _ _
    refine wp_iconst rfl ?_
    refine wp_isub rfl ?_
    refine Wp.topI (y := (-49)) (by decide) ?_
    refine wp_istore (L2 := [vr 53, vi (x2 + 1), vi x3, vi 9, vi (-49)]) rfl (Nat.le_of_ble_eq_true rfl) rfl ?_
    refine wp_iload rfl rfl ?_
    refine wp_iload rfl rfl ?_
    refine wp_iclt (tn := 22) rfl rfl (fun c3 => ?_) (fun c3 => ?_)
    · replace H := H.1 c3
      refine wp_iconst rfl ?_
      refine wp_goto (tn := 28) rfl rfl ?_
      refine wp_iret rfl rfl ?_
      show Wp X _ 213 10 [vr 53, vi x1, vi x2, vi x3, vu] [vi (-1)] _ _
      refine wp_istore (L2 := [vr 53, vi x1, vi x2, vi x3, vi (-1)]) rfl (Nat.le_of_ble_eq_true rfl) rfl ?_
      refine wp_iload rfl rfl ?_
      refine wp_iconst rfl ?_
      refine wp_icneF (tn := 26) rfl rfl (by decide) ?_
      refine wp_aload rfl rfl ?_
      refine wp_iload rfl rfl ?_
      refine wp_iconst rfl ?_
      refine wp_iadd rfl ?_
      refine Wp.topI (y := (x2 + 1)) (w32_I g1) ?_
      refine wp_call (k := 216) (ρ2 := 0) (L2 := [vr 53, vi (x2 + 1)]) rfl rfl rfl (Nat.le_of_ble_eq_true rfl) (Nat.le_of_ble_eq_true rfl) (Nat.le_of_ble_eq_true rfl) (rcv_V rfl (congrArg Prod.fst (kf_53 X.1))) rfl ?_
      refine wp_aload rfl rfl ?_
      refine wp_iload rfl rfl ?_
      refine wp_putI (j := 6) rfl (congrArg Prod.fst (kf_53 X.1)) rfl rfl rfl ?_
      refine wp_iload rfl rfl ?_
      refine wp_iret rfl rfl ?_
      show Wp X _ 213 25 [vr 53, vi x1, vi x2, vi x3, vi (-1)] [vi (x2 + 1)] _ _
      exact wp_iret rfl rfl H
    · replace H := H.2 c3
      refine wp_iload rfl rfl ?_
      refine wp_iload rfl rfl ?_
      refine wp_icleT (tn := 26) rfl rfl (by decide) ?_
      refine wp_iload rfl rfl ?_
      refine wp_iret rfl rfl ?_
      show Wp X _ 213 10 [vr 53, vi x1, vi x2, vi x3, vu] [vi (-49)] _ _
      refine wp_istore (L2 := [vr 53, vi x1, vi x2, vi x3, vi (-49)]) rfl (Nat.le_of_ble_eq_true rfl) rfl ?_
      refine wp_iload rfl rfl ?_
      refine wp_iconst rfl ?_
      refine wp_icneT (tn := 26) rfl rfl (by decide) ?_
      refine wp_aload rfl rfl ?_
      refine wp_iload rfl rfl ?_
      refine wp_call (k := 218) (ρ2 := 0) (L2 := [vr 53, vi x2]) rfl rfl rfl (Nat.le_of_ble_eq_true rfl) (Nat.le_of_ble_eq_true rfl) (Nat.le_of_ble_eq_true rfl) (rcv_V rfl (congrArg Prod.fst (kf_53 X.1))) rfl ?_
      refine wp_iload rfl rfl ?_
      refine wp_ifltT (tn := 21) rfl rfl (by clear H; omega) ?_
      refine wp_iconst rfl ?_
      refine wp_iret rfl rfl ?_
      show Wp X _ 213 31 [vr 53, vi x1, vi x2, vi x3, vi (-49)] [vi (-1)] _ _
      refine wp_iconst rfl ?_
      refine wp_icneT (tn := 52) rfl rfl (by decide) ?_
      refine wp_aload rfl rfl ?_
      refine wp_aload rfl rfl ?_
      refine wp_getI (j := 8) rfl (congrArg Prod.fst (kf_53 X.1)) rfl ?_
      refine wp_iload rfl rfl ?_
      refine wp_call (k := 253) (ρ2 := 0) (L2 := [vi (h 53 8), vi (-49)]) rfl rfl rfl (Nat.le_of_ble_eq_true rfl) (Nat.le_of_ble_eq_true rfl) (Nat.le_of_ble_eq_true rfl) (rcv_S rfl) rfl ?_
      refine wp_iload rfl rfl ?_
      refine wp_iload rfl rfl ?_
      refine wp_icgt (tn := 9) rfl rfl (fun c4 => ?_) (fun c4 => ?_)
      · replace H := H.1 c4
        refine wp_iload rfl rfl ?_
        refine wp_iret rfl rfl ?_
        show Wp X _ 213 62 [vr 53, vi x1, vi x2, vi x3, vi (-49)] [vi (-49), vr 53] _ _
        refine wp_putI (j := 8) rfl (congrArg Prod.fst (kf_53 X.1)) rfl rfl rfl ?_
        refine wp_aload rfl rfl ?_
        refine wp_iload rfl rfl ?_
        refine wp_aload rfl rfl ?_
        refine wp_iload rfl rfl ?_
        refine wp_call (k := 218) (ρ2 := 0) (L2 := [vr 53, vi x2]) rfl rfl rfl (Nat.le_of_ble_eq_true rfl) (Nat.le_of_ble_eq_true rfl) (Nat.le_of_ble_eq_true rfl) (rcv_V rfl (congrArg Prod.fst (kf_53 X.1))) rfl ?_
        refine wp_iload rfl rfl ?_
        refine wp_ifltT (tn := 21) rfl rfl (by clear H; omega) ?_
        refine wp_iconst rfl ?_
        refine wp_iret rfl rfl ?_
        show Wp X _ 213 72 [vr 53, vi x1, vi x2, vi x3, vi (-49)] [vi (-1), vi x1, vr 53] _ _
        refine wp_iload rfl rfl ?_
        refine wp_call (k := 215) (ρ2 := 0) (L2 := [vr 53, vi x1, vi (-1), vi (-49)]) rfl rfl rfl (Nat.le_of_ble_eq_true rfl) (Nat.le_of_ble_eq_true rfl) (Nat.le_of_ble_eq_true rfl) (rcv_V rfl (congrArg Prod.fst (kf_53 X.1))) rfl ?_
        refine wp_iload rfl rfl ?_
        refine wp_iflt (tn := 24) rfl rfl (fun c5 => ?_) (fun c5 => ?_)
        · replace H := H.1 c5
          refine wp_vret rfl rfl ?_
          show Wp X _ 213 77 [vr 53, vi x1, vi x2, vi x3, vi (-49)] [] _ _
          refine wp_iload rfl rfl ?_
          refine wp_iconst rfl ?_
          refine wp_iadd rfl ?_
          have g6 := H.1
          replace H := H.2
          refine Wp.topI (y := (x2 + 2)) (w32_I g6) ?_
          exact wp_iret rfl rfl H
        · replace H := H.2 c5
          refine wp_iload rfl rfl ?_
          refine wp_iconst rfl ?_
          refine wp_icge (tn := 24) rfl rfl (fun c7 => ?_) (fun c7 => ?_)
          · replace H := H.1 c7
            refine wp_vret rfl rfl ?_
            show Wp X _ 213 77 [vr 53, vi x1, vi x2, vi x3, vi (-49)] [] _ _
            refine wp_iload rfl rfl ?_
            refine wp_iconst rfl ?_
            refine wp_iadd rfl ?_
            have g8 := H.1
            replace H := H.2
            refine Wp.topI (y := (x2 + 2)) (w32_I g8) ?_
            exact wp_iret rfl rfl H
          · replace H := H.2 c7
            refine wp_aload rfl rfl ?_
            refine wp_getR (r := 54) rfl (congrArg Prod.fst (kf_53 X.1)) rfl ?_
            refine wp_iload rfl rfl ?_
            refine wp_iload rfl rfl ?_
            refine wp_iastore rfl (kf_55 X.1) ⟨c5, c7⟩ ?_
            refine wp_aload rfl rfl ?_
            refine wp_getR (r := 55) rfl (congrArg Prod.fst (kf_53 X.1)) rfl ?_
            refine wp_iload rfl rfl ?_
            refine wp_iload rfl rfl ?_
            refine wp_iastore rfl (kf_56 X.1) ⟨c5, c7⟩ ?_
            refine wp_vret rfl rfl ?_
            show Wp X _ 213 77 [vr 53, vi x1, vi x2, vi x3, vi (-49)] [] _ _
            refine wp_iload rfl rfl ?_
            refine wp_iconst rfl ?_
            refine wp_iadd rfl ?_
            have g9 := H.1
            replace H := H.2
            refine Wp.topI (y := (x2 + 2)) (w32_I g9) ?_
            exact wp_iret rfl rfl H
      · replace H := H.2 c4
        refine wp_iload rfl rfl ?_
        refine wp_goto (tn := 10) rfl rfl ?_
        refine wp_iret rfl rfl ?_
        show Wp X _ 213 62 [vr 53, vi x1, vi x2, vi x3, vi (-49)] [vi (h 53 8), vr 53] _ _
        refine wp_putI (j := 8) rfl (congrArg Prod.fst (kf_53 X.1)) rfl rfl rfl ?_
        refine wp_aload rfl rfl ?_
        refine wp_iload rfl rfl ?_
        refine wp_aload rfl rfl ?_
        refine wp_iload rfl rfl ?_
        refine wp_call (k := 218) (ρ2 := 0) (L2 := [vr 53, vi x2]) rfl rfl rfl (Nat.le_of_ble_eq_true rfl) (Nat.le_of_ble_eq_true rfl) (Nat.le_of_ble_eq_true rfl) (rcv_V rfl (congrArg Prod.fst (kf_53 X.1))) rfl ?_
        refine wp_iload rfl rfl ?_
        refine wp_ifltT (tn := 21) rfl rfl (by clear H; omega) ?_
        refine wp_iconst rfl ?_
        refine wp_iret rfl rfl ?_
        show Wp X _ 213 72 [vr 53, vi x1, vi x2, vi x3, vi (-49)] [vi (-1), vi x1, vr 53] _ _
        refine wp_iload rfl rfl ?_
        refine wp_call (k := 215) (ρ2 := 0) (L2 := [vr 53, vi x1, vi (-1), vi (-49)]) rfl rfl rfl (Nat.le_of_ble_eq_true rfl) (Nat.le_of_ble_eq_true rfl) (Nat.le_of_ble_eq_true rfl) (rcv_V rfl (congrArg Prod.fst (kf_53 X.1))) rfl ?_
        refine wp_iload rfl rfl ?_
        refine wp_iflt (tn := 24) rfl rfl (fun c10 => ?_) (fun c10 => ?_)
        · replace H := H.1 c10
          refine wp_vret rfl rfl ?_
          show Wp X _ 213 77 [vr 53, vi x1, vi x2, vi x3, vi (-49)] [] _ _
          refine wp_iload rfl rfl ?_
          refine wp_iconst rfl ?_
          refine wp_iadd rfl ?_
          have g11 := H.1
          replace H := H.2
          refine Wp.topI (y := (x2 + 2)) (w32_I g11) ?_
          exact wp_iret rfl rfl H
        · replace H := H.2 c10
          refine wp_iload rfl rfl ?_
          refine wp_iconst rfl ?_
          refine wp_icge (tn := 24) rfl rfl (fun c12 => ?_) (fun c12 => ?_)
          · replace H := H.1 c12
            refine wp_vret rfl rfl ?_
            show Wp X _ 213 77 [vr 53, vi x1, vi x2, vi x3, vi (-49)] [] _ _
            refine wp_iload rfl rfl ?_
            refine wp_iconst rfl ?_
            refine wp_iadd rfl ?_
            have g13 := H.1
            replace H := H.2
            refine Wp.topI (y := (x2 + 2)) (w32_I g13) ?_
            exact wp_iret rfl rfl H
          · replace H := H.2 c12
            refine wp_aload rfl rfl ?_
            refine wp_getR (r := 54) rfl (congrArg Prod.fst (kf_53 X.1)) rfl ?_
            refine wp_iload rfl rfl ?_
            refine wp_iload rfl rfl ?_
            refine wp_iastore rfl (kf_55 X.1) ⟨c10, c12⟩ ?_
            refine wp_aload rfl rfl ?_
            refine wp_getR (r := 55) rfl (congrArg Prod.fst (kf_53 X.1)) rfl ?_
            refine wp_iload rfl rfl ?_
            refine wp_iload rfl rfl ?_
            refine wp_iastore rfl (kf_56 X.1) ⟨c10, c12⟩ ?_
            refine wp_vret rfl rfl ?_
            show Wp X _ 213 77 [vr 53, vi x1, vi x2, vi x3, vi (-49)] [] _ _
            refine wp_iload rfl rfl ?_
            refine wp_iconst rfl ?_
            refine wp_iadd rfl ?_
            have g14 := H.1
            replace H := H.2
            refine Wp.topI (y := (x2 + 2)) (w32_I g14) ?_
            exact wp_iret rfl rfl H
  · replace H := H.2 c2
    refine wp_iload rfl rfl ?_
    refine wp_aload rfl rfl ?_
    refine wp_getI (j := 4) rfl (congrArg Prod.fst (kf_53 X.1)) rfl ?_
    refine wp_icge (tn := 21) rfl rfl (fun c15 => ?_) (fun c15 => ?_)
    · replace H := H.1 c15
      refine wp_iconst rfl ?_
      refine wp_iret rfl rfl ?_
      show Wp X _ 217 5 [vr 53, vi (x2 + 1), vi x3, vi 9, vu] [vi (-1)] _ _
      refine wp_iconst rfl ?_
      refine wp_isub rfl ?_
      refine Wp.topI (y := (-49)) (by decide) ?_
      refine wp_istore (L2 := [vr 53, vi (x2 + 1), vi x3, vi 9, vi (-49)]) rfl (Nat.le_of_ble_eq_true rfl) rfl ?_
      refine wp_iload rfl rfl ?_
      refine wp_iload rfl rfl ?_
      refine wp_iclt (tn := 22) rfl rfl (fun c16 => ?_) (fun c16 => ?_)
      · replace H := H.1 c16
        refine wp_iconst rfl ?_
        refine wp_goto (tn := 28) rfl rfl ?_
        refine wp_iret rfl rfl ?_
        show Wp X _ 213 10 [vr 53, vi x1, vi x2, vi x3, vu] [vi (-1)] _ _
        refine wp_istore (L2 := [vr 53, vi x1, vi x2, vi x3, vi (-1)]) rfl (Nat.le_of_ble_eq_true rfl) rfl ?_
        refine wp_iload rfl rfl ?_
        refine wp_iconst rfl ?_
        refine wp_icneF (tn := 26) rfl rfl (by decide) ?_
        refine wp_aload rfl rfl ?_
        refine wp_iload rfl rfl ?_
        refine wp_iconst rfl ?_
        refine wp_iadd rfl ?_
        refine Wp.topI (y := (x2 + 1)) (w32_I g1) ?_
        refine wp_call (k := 216) (ρ2 := 0) (L2 := [vr 53, vi (x2 + 1)]) rfl rfl rfl (Nat.le_of_ble_eq_true rfl) (Nat.le_of_ble_eq_true rfl) (Nat.le_of_ble_eq_true rfl) (rcv_V rfl (congrArg Prod.fst (kf_53 X.1))) rfl ?_
        refine wp_aload rfl rfl ?_
        refine wp_iload rfl rfl ?_
        refine wp_putI (j := 6) rfl (congrArg Prod.fst (kf_53 X.1)) rfl rfl rfl ?_
        refine wp_iload rfl rfl ?_
        refine wp_iret rfl rfl ?_
        show Wp X _ 213 25 [vr 53, vi x1, vi x2, vi x3, vi (-1)] [vi (x2 + 1)] _ _
        exact wp_iret rfl rfl H
      · replace H := H.2 c16
        refine wp_iload rfl rfl ?_
        refine wp_iload rfl rfl ?_
        refine wp_icleT (tn := 26) rfl rfl (by decide) ?_
        refine wp_iload rfl rfl ?_
        refine wp_iret rfl rfl ?_
        show Wp X _ 213 10 [vr 53, vi x1, vi x2, vi x3, vu] [vi (-49)] _ _
        refine wp_istore (L2 := [vr 53, vi x1, vi x2, vi x3, vi (-49)]) rfl (Nat.le_of_ble_eq_true rfl) rfl ?_
        refine wp_iload rfl rfl ?_
        refine wp_iconst rfl ?_
        refine wp_icneT (tn := 26) rfl rfl (by decide) ?_
        refine wp_aload rfl rfl ?_
        refine wp_iload rfl rfl ?_
        refine wp_call (k := 218) (ρ2 := 0) (L2 := [vr 53, vi x2]) rfl rfl rfl (Nat.le_of_ble_eq_true rfl) (Nat.le_of_ble_eq_true rfl) (Nat.le_of_ble_eq_true rfl) (rcv_V rfl (congrArg Prod.fst (kf_53 X.1))) rfl ?_
        refine wp_iload rfl rfl ?_
        refine wp_iflt (tn := 21) rfl rfl (fun c17 => ?_) (fun c17 => ?_)
        · replace H := H.1 c17
          refine wp_iconst rfl ?_
          refine wp_iret rfl rfl ?_
          show Wp X _ 213 31 [vr 53, vi x1, vi x2, vi x3, vi (-49)] [vi (-1)] _ _
          refine wp_iconst rfl ?_
          refine wp_icneT (tn := 52) rfl rfl (by decide) ?_
          refine wp_aload rfl rfl ?_
          refine wp_aload rfl rfl ?_
          refine wp_getI (j := 8) rfl (congrArg Prod.fst (kf_53 X.1)) rfl ?_
          refine wp_iload rfl rfl ?_
          refine wp_call (k := 253) (ρ2 := 0) (L2 := [vi (h 53 8), vi (-49)]) rfl rfl rfl (Nat.le_of_ble_eq_true rfl) (Nat.le_of_ble_eq_true rfl) (Nat.le_of_ble_eq_true rfl) (rcv_S rfl) rfl ?_
          refine wp_iload rfl rfl ?_
          refine wp_iload rfl rfl ?_
          refine wp_icgt (tn := 9) rfl rfl (fun c18 => ?_) (fun c18 => ?_)
          · replace H := H.1 c18
            refine wp_iload rfl rfl ?_
            refine wp_iret rfl rfl ?_
            show Wp X _ 213 62 [vr 53, vi x1, vi x2, vi x3, vi (-49)] [vi (-49), vr 53] _ _
            refine wp_putI (j := 8) rfl (congrArg Prod.fst (kf_53 X.1)) rfl rfl rfl ?_
            refine wp_aload rfl rfl ?_
            refine wp_iload rfl rfl ?_
            refine wp_aload rfl rfl ?_
            refine wp_iload rfl rfl ?_
            refine wp_call (k := 218) (ρ2 := 0) (L2 := [vr 53, vi x2]) rfl rfl rfl (Nat.le_of_ble_eq_true rfl) (Nat.le_of_ble_eq_true rfl) (Nat.le_of_ble_eq_true rfl) (rcv_V rfl (congrArg Prod.fst (kf_53 X.1))) rfl ?_
            refine wp_iload rfl rfl ?_
            refine wp_ifltT (tn := 21) rfl rfl c17 ?_
            refine wp_iconst rfl ?_
            refine wp_iret rfl rfl ?_
            show Wp X _ 213 72 [vr 53, vi x1, vi x2, vi x3, vi (-49)] [vi (-1), vi x1, vr 53] _ _
            refine wp_iload rfl rfl ?_
            refine wp_call (k := 215) (ρ2 := 0) (L2 := [vr 53, vi x1, vi (-1), vi (-49)]) rfl rfl rfl (Nat.le_of_ble_eq_true rfl) (Nat.le_of_ble_eq_true rfl) (Nat.le_of_ble_eq_true rfl) (rcv_V rfl (congrArg Prod.fst (kf_53 X.1))) rfl ?_
            refine wp_iload rfl rfl ?_
            refine wp_iflt (tn := 24) rfl rfl (fun c19 => ?_) (fun c19 => ?_)
            · replace H := H.1 c19
              refine wp_vret rfl rfl ?_
              show Wp X _ 213 77 [vr 53, vi x1, vi x2, vi x3, vi (-49)] [] _ _
              refine wp_iload rfl rfl ?_
              refine wp_iconst rfl ?_
              refine wp_iadd rfl ?_
              refine Wp.topI (y := (x2 + 2)) (w32_I (by clear H; unfold R32; omega)) ?_
              exact wp_iret rfl rfl H
            · replace H := H.2 c19
              refine wp_iload rfl rfl ?_
              refine wp_iconst rfl ?_
              refine wp_icge (tn := 24) rfl rfl (fun c20 => ?_) (fun c20 => ?_)
              · replace H := H.1 c20
                refine wp_vret rfl rfl ?_
                show Wp X _ 213 77 [vr 53, vi x1, vi x2, vi x3, vi (-49)] [] _ _
                refine wp_iload rfl rfl ?_
                refine wp_iconst rfl ?_
                refine wp_iadd rfl ?_
                refine Wp.topI (y := (x2 + 2)) (w32_I (by clear H; unfold R32; omega)) ?_
                exact wp_iret rfl rfl H
              · replace H := H.2 c20
                refine wp_aload rfl rfl ?_
                refine wp_getR (r := 54) rfl (congrArg Prod.fst (kf_53 X.1)) rfl ?_
                refine wp_iload rfl rfl ?_
                refine wp_iload rfl rfl ?_
                refine wp_iastore rfl (kf_55 X.1) ⟨c19, c20⟩ ?_
                refine wp_aload rfl rfl ?_
                refine wp_getR (r := 55) rfl (congrArg Prod.fst (kf_53 X.1)) rfl ?_
                refine wp_iload rfl rfl ?_
                refine wp_iload rfl rfl ?_
                refine wp_iastore rfl (kf_56 X.1) ⟨c19, c20⟩ ?_
                refine wp_vret rfl rfl ?_
                show Wp X _ 213 77 [vr 53, vi x1, vi x2, vi x3, vi (-49)] [] _ _
                refine wp_iload rfl rfl ?_
                refine wp_iconst rfl ?_
                refine wp_iadd rfl ?_
                refine Wp.topI (y := (x2 + 2)) (w32_I (by clear H; unfold R32; omega)) ?_
                exact wp_iret rfl rfl H
          · replace H := H.2 c18
            refine wp_iload rfl rfl ?_
            refine wp_goto (tn := 10) rfl rfl ?_
            refine wp_iret rfl rfl ?_
            show Wp X _ 213 62 [vr 53, vi x1, vi x2, vi x3, vi (-49)] [vi (h 53 8), vr 53] _ _
            refine wp_putI (j := 8) rfl (congrArg Prod.fst (kf_53 X.1)) rfl rfl rfl ?_
            refine wp_aload rfl rfl ?_
            refine wp_iload rfl rfl ?_
            refine wp_aload rfl rfl ?_
            refine wp_iload rfl rfl ?_
            refine wp_call (k := 218) (ρ2 := 0) (L2 := [vr 53, vi x2]) rfl rfl rfl (Nat.le_of_ble_eq_true rfl) (Nat.le_of_ble_eq_true rfl) (Nat.le_of_ble_eq_true rfl) (rcv_V rfl (congrArg Prod.fst (kf_53 X.1))) rfl ?_
            refine wp_iload rfl rfl ?_
            refine wp_ifltT (tn := 21) rfl rfl c17 ?_
            refine wp_iconst rfl ?_
            refine wp_iret rfl rfl ?_
            show Wp X _ 213 72 [vr 53, vi x1, vi x2, vi x3, vi (-49)] [vi (-1), vi x1, vr 53] _ _
            refine wp_iload rfl rfl ?_
            refine wp_call (k := 215) (ρ2 := 0) (L2 := [vr 53, vi x1, vi (-1), vi (-49)]) rfl rfl rfl (Nat.le_of_ble_eq_true rfl) (Nat.le_of_ble_eq_true rfl) (Nat.le_of_ble_eq_true rfl) (rcv_V rfl (congrArg Prod.fst (kf_53 X.1))) rfl ?_
            refine wp_iload rfl rfl ?_
            refine wp_iflt (tn := 24) rfl rfl (fun c21 => ?_) (fun c21 => ?_)
            · replace H := H.1 c21
              refine wp_vret rfl rfl ?_
              show Wp X _ 213 77 [vr 53, vi x1, vi x2, vi x3, vi (-49)] [] _ _
              refine wp_iload rfl rfl ?_
              refine wp_iconst rfl ?_
              refine wp_iadd rfl ?_
              refine Wp.topI (y := (x2 + 2)) (w32_I (by clear H; unfold R32; omega)) ?_
              exact wp_iret rfl rfl H
            · replace H := H.2 c21
              refine wp_iload rfl rfl ?_
              refine wp_iconst rfl ?_
              refine wp_icge (tn := 24) rfl rfl (fun c22 => ?_) (fun c22 => ?_)
              · replace H := H.1 c22
                refine wp_vret rfl rfl ?_
                show Wp X _ 213 77 [vr 53, vi x1, vi x2, vi x3, vi (-49)] [] _ _
                refine wp_iload rfl rfl ?_
                refine wp_iconst rfl ?_
                refine wp_iadd rfl ?_
                refine Wp.topI (y := (x2 + 2)) (w32_I (by clear H; unfold R32; omega)) ?_
                exact wp_iret rfl rfl H
              · replace H := H.2 c22
                refine wp_aload rfl rfl ?_
                refine wp_getR (r := 54) rfl (congrArg Prod.fst (kf_53 X.1)) rfl ?_
                refine wp_iload rfl rfl ?_
                refine wp_iload rfl rfl ?_
                refine wp_iastore rfl (kf_55 X.1) ⟨c21, c22⟩ ?_
                refine wp_aload rfl rfl ?_
                refine wp_getR (r := 55) rfl (congrArg Prod.fst (kf_53 X.1)) rfl ?_
                refine wp_iload rfl rfl ?_
                refine wp_iload rfl rfl ?_
                refine wp_iastore rfl (kf_56 X.1) ⟨c21, c22⟩ ?_
                refine wp_vret rfl rfl ?_
                show Wp X _ 213 77 [vr 53, vi x1, vi x2, vi x3, vi (-49)] [] _ _
                refine wp_iload rfl rfl ?_
                refine wp_iconst rfl ?_
                refine wp_iadd rfl ?_
                refine Wp.topI (y := (x2 + 2)) (w32_I (by clear H; unfold R32; omega)) ?_
                exact wp_iret rfl rfl H
        · replace H := H.2 c17
          refine wp_iload rfl rfl ?_
          refine wp_aload rfl rfl ?_
          refine wp_getI (j := 4) rfl (congrArg Prod.fst (kf_53 X.1)) rfl ?_
          refine wp_icge (tn := 21) rfl rfl (fun c23 => ?_) (fun c23 => ?_)
          · replace H := H.1 c23
            refine wp_iconst rfl ?_
            refine wp_iret rfl rfl ?_
            show Wp X _ 213 31 [vr 53, vi x1, vi x2, vi x3, vi (-49)] [vi (-1)] _ _
            refine wp_iconst rfl ?_
            refine wp_icneT (tn := 52) rfl rfl (by decide) ?_
            refine wp_aload rfl rfl ?_
            refine wp_aload rfl rfl ?_
            refine wp_getI (j := 8) rfl (congrArg Prod.fst (kf_53 X.1)) rfl ?_
            refine wp_iload rfl rfl ?_
            refine wp_call (k := 253) (ρ2 := 0) (L2 := [vi (h 53 8), vi (-49)]) rfl rfl rfl (Nat.le_of_ble_eq_true rfl) (Nat.le_of_ble_eq_true rfl) (Nat.le_of_ble_eq_true rfl) (rcv_S rfl) rfl ?_
            refine wp_iload rfl rfl ?_
            refine wp_iload rfl rfl ?_
            refine wp_icgt (tn := 9) rfl rfl (fun c24 => ?_) (fun c24 => ?_)
            · replace H := H.1 c24
              refine wp_iload rfl rfl ?_
              refine wp_iret rfl rfl ?_
              show Wp X _ 213 62 [vr 53, vi x1, vi x2, vi x3, vi (-49)] [vi (-49), vr 53] _ _
              refine wp_putI (j := 8) rfl (congrArg Prod.fst (kf_53 X.1)) rfl rfl rfl ?_
              refine wp_aload rfl rfl ?_
              refine wp_iload rfl rfl ?_
              refine wp_aload rfl rfl ?_
              refine wp_iload rfl rfl ?_
              refine wp_call (k := 218) (ρ2 := 0) (L2 := [vr 53, vi x2]) rfl rfl rfl (Nat.le_of_ble_eq_true rfl) (Nat.le_of_ble_eq_true rfl) (Nat.le_of_ble_eq_true rfl) (rcv_V rfl (congrArg Prod.fst (kf_53 X.1))) rfl ?_
              refine wp_iload rfl rfl ?_
              refine wp_ifltF (tn := 21) rfl rfl c17 ?_
              refine wp_iload rfl rfl ?_
              refine wp_aload rfl rfl ?_
              refine wp_getI (j := 4) rfl (congrArg Prod.fst (kf_53 X.1)) rfl ?_
              refine Wp.topI (y := (h 53 4)) (upd2_o (by decide)) ?_
              refine wp_icgeT (tn := 21) rfl rfl c23 ?_
              refine wp_iconst rfl ?_
              refine wp_iret rfl rfl ?_
              show Wp X _ 213 72 [vr 53, vi x1, vi x2, vi x3, vi (-49)] [vi (-1), vi x1, vr 53] _ _
              refine wp_iload rfl rfl ?_
              refine wp_call (k := 215) (ρ2 := 0) (L2 := [vr 53, vi x1, vi (-1), vi (-49)]) rfl rfl rfl (Nat.le_of_ble_eq_true rfl) (Nat.le_of_ble_eq_true rfl) (Nat.le_of_ble_eq_true rfl) (rcv_V rfl (congrArg Prod.fst (kf_53 X.1))) rfl ?_
              refine wp_iload rfl rfl ?_
              refine wp_iflt (tn := 24) rfl rfl (fun c25 => ?_) (fun c25 => ?_)
              · replace H := H.1 c25
                refine wp_vret rfl rfl ?_
                show Wp X _ 213 77 [vr 53, vi x1, vi x2, vi x3, vi (-49)] [] _ _
                refine wp_iload rfl rfl ?_
                refine wp_iconst rfl ?_
                refine wp_iadd rfl ?_
                have g26 := H.1
                replace H := H.2
                refine Wp.topI (y := (x2 + 2)) (w32_I g26) ?_
                exact wp_iret rfl rfl H
              · replace H := H.2 c25
                refine wp_iload rfl rfl ?_
                refine wp_iconst rfl ?_
                refine wp_icge (tn := 24) rfl rfl (fun c27 => ?_) (fun c27 => ?_)
                · replace H := H.1 c27
                  refine wp_vret rfl rfl ?_
                  show Wp X _ 213 77 [vr 53, vi x1, vi x2, vi x3, vi (-49)] [] _ _
                  refine wp_iload rfl rfl ?_
                  refine wp_iconst rfl ?_
                  refine wp_iadd rfl ?_
                  have g28 := H.1
                  replace H := H.2
                  refine Wp.topI (y := (x2 + 2)) (w32_I g28) ?_
                  exact wp_iret rfl rfl H
                · replace H := H.2 c27
                  refine wp_aload rfl rfl ?_
                  refine wp_getR (r := 54) rfl (congrArg Prod.fst (kf_53 X.1)) rfl ?_
                  refine wp_iload rfl rfl ?_
                  refine wp_iload rfl rfl ?_
                  refine wp_iastore rfl (kf_55 X.1) ⟨c25, c27⟩ ?_
                  refine wp_aload rfl rfl ?_
                  refine wp_getR (r := 55) rfl (congrArg Prod.fst (kf_53 X.1)) rfl ?_
                  refine wp_iload rfl rfl ?_
                  refine wp_iload rfl rfl ?_
                  refine wp_iastore rfl (kf_56 X.1) ⟨c25, c27⟩ ?_
                  refine wp_vret rfl rfl ?_
                  show Wp X _ 213 77 [vr 53, vi x1, vi x2, vi x3, vi (-49)] [] _ _
                  refine wp_iload rfl rfl ?_
                  refine wp_iconst rfl ?_
                  refine wp_iadd rfl ?_
                  have g29 := H.1
                  replace H := H.2
                  refine Wp.topI (y := (x2 + 2)) (w32_I g29) ?_
                  exact wp_iret rfl rfl H
            · replace H := H.2 c24
              refine wp_iload rfl rfl ?_
              refine wp_goto (tn := 10) rfl rfl ?_
              refine wp_iret rfl rfl ?_
              show Wp X _ 213 62 [vr 53, vi x1, vi x2, vi x3, vi (-49)] [vi (h 53 8), vr 53] _ _
              refine wp_putI (j := 8) rfl (congrArg Prod.fst (kf_53 X.1)) rfl rfl rfl ?_
              refine wp_aload rfl rfl ?_
              refine wp_iload rfl rfl ?_
              refine wp_aload rfl rfl ?_
              refine wp_iload rfl rfl ?_
              refine wp_call (k := 218) (ρ2 := 0) (L2 := [vr 53, vi x2]) rfl rfl rfl (Nat.le_of_ble_eq_true rfl) (Nat.le_of_ble_eq_true rfl) (Nat.le_of_ble_eq_true rfl) (rcv_V rfl (congrArg Prod.fst (kf_53 X.1))) rfl ?_
              refine wp_iload rfl rfl ?_
              refine wp_ifltF (tn := 21) rfl rfl c17 ?_
              refine wp_iload rfl rfl ?_
              refine wp_aload rfl rfl ?_
              refine wp_getI (j := 4) rfl (congrArg Prod.fst (kf_53 X.1)) rfl ?_
              refine Wp.topI (y := (h 53 4)) (upd2_o (by decide)) ?_
              refine wp_icgeT (tn := 21) rfl rfl c23 ?_
              refine wp_iconst rfl ?_
              refine wp_iret rfl rfl ?_
              show Wp X _ 213 72 [vr 53, vi x1, vi x2, vi x3, vi (-49)] [vi (-1), vi x1, vr 53] _ _
              refine wp_iload rfl rfl ?_
              refine wp_call (k := 215) (ρ2 := 0) (L2 := [vr 53, vi x1, vi (-1), vi (-49)]) rfl rfl rfl (Nat.le_of_ble_eq_true rfl) (Nat.le_of_ble_eq_true rfl) (Nat.le_of_ble_eq_true rfl) (rcv_V rfl (congrArg Prod.fst (kf_53 X.1))) rfl ?_
              refine wp_iload rfl rfl ?_
              refine wp_iflt (tn := 24) rfl rfl (fun c30 => ?_) (fun c30 => ?_)
              · replace H := H.1 c30
                refine wp_vret rfl rfl ?_
                show Wp X _ 213 77 [vr 53, vi x1, vi x2, vi x3, vi (-49)] [] _ _
                refine wp_iload rfl rfl ?_
                refine wp_iconst rfl ?_
                refine wp_iadd rfl ?_
                have g31 := H.1
                replace H := H.2
                refine Wp.topI (y := (x2 + 2)) (w32_I g31) ?_
                exact wp_iret rfl rfl H
              · replace H := H.2 c30
                refine wp_iload rfl rfl ?_
                refine wp_iconst rfl ?_
                refine wp_icge (tn := 24) rfl rfl (fun c32 => ?_) (fun c32 => ?_)
                · replace H := H.1 c32
                  refine wp_vret rfl rfl ?_
                  show Wp X _ 213 77 [vr 53, vi x1, vi x2, vi x3, vi (-49)] [] _ _
                  refine wp_iload rfl rfl ?_
                  refine wp_iconst rfl ?_
                  refine wp_iadd rfl ?_
                  have g33 := H.1
                  replace H := H.2
                  refine Wp.topI (y := (x2 + 2)) (w32_I g33) ?_
                  exact wp_iret rfl rfl H
                · replace H := H.2 c32
                  refine wp_aload rfl rfl ?_
                  refine wp_getR (r := 54) rfl (congrArg Prod.fst (kf_53 X.1)) rfl ?_
                  refine wp_iload rfl rfl ?_
                  refine wp_iload rfl rfl ?_
                  refine wp_iastore rfl (kf_55 X.1) ⟨c30, c32⟩ ?_
                  refine wp_aload rfl rfl ?_
                  refine wp_getR (r := 55) rfl (congrArg Prod.fst (kf_53 X.1)) rfl ?_
                  refine wp_iload rfl rfl ?_
                  refine wp_iload rfl rfl ?_
                  refine wp_iastore rfl (kf_56 X.1) ⟨c30, c32⟩ ?_
                  refine wp_vret rfl rfl ?_
                  show Wp X _ 213 77 [vr 53, vi x1, vi x2, vi x3, vi (-49)] [] _ _
                  refine wp_iload rfl rfl ?_
                  refine wp_iconst rfl ?_
                  refine wp_iadd rfl ?_
                  have g34 := H.1
                  replace H := H.2
                  refine Wp.topI (y := (x2 + 2)) (w32_I g34) ?_
                  exact wp_iret rfl rfl H
          · replace H := H.2 c23
            refine wp_aload rfl rfl ?_
            refine wp_getR (r := 53) rfl (congrArg Prod.fst (kf_53 X.1)) rfl ?_
            refine wp_iload rfl rfl ?_
            have g35 := H.1
            replace H := H.2
            refine wp_iaload rfl (kf_54 X.1) g35 ?_
            refine wp_goto (tn := 22) rfl rfl ?_
            refine wp_iret rfl rfl ?_
            show Wp X _ 213 31 [vr 53, vi x1, vi x2, vi x3, vi (-49)] [vi (h 54 x2)] _ _
            refine wp_iconst rfl ?_
            refine wp_icne (tn := 52) rfl rfl (fun c36 => ?_) (fun c36 => ?_)
            · replace H := H.1 c36
              refine wp_aload rfl rfl ?_
              refine wp_aload rfl rfl ?_
              refine wp_getI (j := 8) rfl (congrArg Prod.fst (kf_53 X.1)) rfl ?_
              refine wp_iload rfl rfl ?_
              refine wp_call (k := 253) (ρ2 := 0) (L2 := [vi (h 53 8), vi (-49)]) rfl rfl rfl (Nat.le_of_ble_eq_true rfl) (Nat.le_of_ble_eq_true rfl) (Nat.le_of_ble_eq_true rfl) (rcv_S rfl) rfl ?_
              refine wp_iload rfl rfl ?_
              refine wp_iload rfl rfl ?_
              refine wp_icgt (tn := 9) rfl rfl (fun c37 => ?_) (fun c37 => ?_)
              · replace H := H.1 c37
                refine wp_iload rfl rfl ?_
                refine wp_iret rfl rfl ?_
                show Wp X _ 213 62 [vr 53, vi x1, vi x2, vi x3, vi (-49)] [vi (-49), vr 53] _ _
                refine wp_putI (j := 8) rfl (congrArg Prod.fst (kf_53 X.1)) rfl rfl rfl ?_
                refine wp_aload rfl rfl ?_
                refine wp_iload rfl rfl ?_
                refine wp_aload rfl rfl ?_
                refine wp_iload rfl rfl ?_
                refine wp_call (k := 218) (ρ2 := 0) (L2 := [vr 53, vi x2]) rfl rfl rfl (Nat.le_of_ble_eq_true rfl) (Nat.le_of_ble_eq_true rfl) (Nat.le_of_ble_eq_true rfl) (rcv_V rfl (congrArg Prod.fst (kf_53 X.1))) rfl ?_
                refine wp_iload rfl rfl ?_
                refine wp_ifltF (tn := 21) rfl rfl g35.1 ?_
                refine wp_iload rfl rfl ?_
                refine wp_aload rfl rfl ?_
                refine wp_getI (j := 4) rfl (congrArg Prod.fst (kf_53 X.1)) rfl ?_
                refine Wp.topI (y := (h 53 4)) (upd2_o (by decide)) ?_
                refine wp_icgeF (tn := 21) rfl rfl c23 ?_
                refine wp_aload rfl rfl ?_
                refine wp_getR (r := 53) rfl (congrArg Prod.fst (kf_53 X.1)) rfl ?_
                refine wp_iload rfl rfl ?_
                refine wp_iaload rfl (kf_54 X.1) ⟨g35.1, g35.2⟩ ?_
                refine Wp.topI (y := (h 54 x2)) (congrFun (upd2_ne (by decide)) _) ?_
                refine wp_goto (tn := 22) rfl rfl ?_
                refine wp_iret rfl rfl ?_
                show Wp X _ 213 72 [vr 53, vi x1, vi x2, vi x3, vi (-49)] [vi (h 54 x2), vi x1, vr 53] _ _
                refine wp_iload rfl rfl ?_
                refine wp_call (k := 215) (ρ2 := 0) (L2 := [vr 53, vi x1, vi (h 54 x2), vi (-49)]) rfl rfl rfl (Nat.le_of_ble_eq_true rfl) (Nat.le_of_ble_eq_true rfl) (Nat.le_of_ble_eq_true rfl) (rcv_V rfl (congrArg Prod.fst (kf_53 X.1))) rfl ?_
                refine wp_iload rfl rfl ?_
                refine wp_iflt (tn := 24) rfl rfl (fun c38 => ?_) (fun c38 => ?_)
                · replace H := H.1 c38
                  refine wp_vret rfl rfl ?_
                  show Wp X _ 213 77 [vr 53, vi x1, vi x2, vi x3, vi (-49)] [] _ _
                  refine wp_iload rfl rfl ?_
                  refine wp_iconst rfl ?_
                  refine wp_iadd rfl ?_
                  refine Wp.topI (y := (x2 + 2)) (w32_I (by clear H; unfold R32; omega)) ?_
                  exact wp_iret rfl rfl H
                · replace H := H.2 c38
                  refine wp_iload rfl rfl ?_
                  refine wp_iconst rfl ?_
                  refine wp_icge (tn := 24) rfl rfl (fun c39 => ?_) (fun c39 => ?_)
                  · replace H := H.1 c39
                    refine wp_vret rfl rfl ?_
                    show Wp X _ 213 77 [vr 53, vi x1, vi x2, vi x3, vi (-49)] [] _ _
                    refine wp_iload rfl rfl ?_
                    refine wp_iconst rfl ?_
                    refine wp_iadd rfl ?_
                    refine Wp.topI (y := (x2 + 2)) (w32_I (by clear H; unfold R32; omega)) ?_
                    exact wp_iret rfl rfl H
                  · replace H := H.2 c39
                    refine wp_aload rfl rfl ?_
                    refine wp_getR (r := 54) rfl (congrArg Prod.fst (kf_53 X.1)) rfl ?_
                    refine wp_iload rfl rfl ?_
                    refine wp_iload rfl rfl ?_
                    refine wp_iastore rfl (kf_55 X.1) ⟨c38, c39⟩ ?_
                    refine wp_aload rfl rfl ?_
                    refine wp_getR (r := 55) rfl (congrArg Prod.fst (kf_53 X.1)) rfl ?_
                    refine wp_iload rfl rfl ?_
                    refine wp_iload rfl rfl ?_
                    refine wp_iastore rfl (kf_56 X.1) ⟨c38, c39⟩ ?_
                    refine wp_vret rfl rfl ?_
                    show Wp X _ 213 77 [vr 53, vi x1, vi x2, vi x3, vi (-49)] [] _ _
                    refine wp_iload rfl rfl ?_
                    refine wp_iconst rfl ?_
                    refine wp_iadd rfl ?_
                    refine Wp.topI (y := (x2 + 2)) (w32_I (by clear H; unfold R32; omega)) ?_
                    exact wp_iret rfl rfl H
              · replace H := H.2 c37
                refine wp_iload rfl rfl ?_
                refine wp_goto (tn := 10) rfl rfl ?_
                refine wp_iret rfl rfl ?_
                show Wp X _ 213 62 [vr 53, vi x1, vi x2, vi x3, vi (-49)] [vi (h 53 8), vr 53] _ _
                refine wp_putI (j := 8) rfl (congrArg Prod.fst (kf_53 X.1)) rfl rfl rfl ?_
                refine wp_aload rfl rfl ?_
                refine wp_iload rfl rfl ?_
                refine wp_aload rfl rfl ?_
                refine wp_iload rfl rfl ?_
                refine wp_call (k := 218) (ρ2 := 0) (L2 := [vr 53, vi x2]) rfl rfl rfl (Nat.le_of_ble_eq_true rfl) (Nat.le_of_ble_eq_true rfl) (Nat.le_of_ble_eq_true rfl) (rcv_V rfl (congrArg Prod.fst (kf_53 X.1))) rfl ?_
                refine wp_iload rfl rfl ?_
                refine wp_ifltF (tn := 21) rfl rfl g35.1 ?_
                refine wp_iload rfl rfl ?_
                refine wp_aload rfl rfl ?_
                refine wp_getI (j := 4) rfl (congrArg Prod.fst (kf_53 X.1)) rfl ?_
                refine Wp.topI (y := (h 53 4)) (upd2_o (by decide)) ?_
                refine wp_icgeF (tn := 21) rfl rfl c23 ?_
                refine wp_aload rfl rfl ?_
                refine wp_getR (r := 53) rfl (congrArg Prod.fst (kf_53 X.1)) rfl ?_
                refine wp_iload rfl rfl ?_
                refine wp_iaload rfl (kf_54 X.1) ⟨g35.1, g35.2⟩ ?_
                refine Wp.topI (y := (h 54 x2)) (congrFun (upd2_ne (by decide)) _) ?_
                refine wp_goto (tn := 22) rfl rfl ?_
                refine wp_iret rfl rfl ?_
                show Wp X _ 213 72 [vr 53, vi x1, vi x2, vi x3, vi (-49)] [vi (h 54 x2), vi x1, vr 53] _ _
                refine wp_iload rfl rfl ?_
                refine wp_call (k := 215) (ρ2 := 0) (L2 := [vr 53, vi x1, vi (h 54 x2), vi (-49)]) rfl rfl rfl (Nat.le_of_ble_eq_true rfl) (Nat.le_of_ble_eq_true rfl) (Nat.le_of_ble_eq_true rfl) (rcv_V rfl (congrArg Prod.fst (kf_53 X.1))) rfl ?_
                refine wp_iload rfl rfl ?_
                refine wp_iflt (tn := 24) rfl rfl (fun c40 => ?_) (fun c40 => ?_)
                · replace H := H.1 c40
                  refine wp_vret rfl rfl ?_
                  show Wp X _ 213 77 [vr 53, vi x1, vi x2, vi x3, vi (-49)] [] _ _
                  refine wp_iload rfl rfl ?_
                  refine wp_iconst rfl ?_
                  refine wp_iadd rfl ?_
                  refine Wp.topI (y := (x2 + 2)) (w32_I (by clear H; unfold R32; omega)) ?_
                  exact wp_iret rfl rfl H
                · replace H := H.2 c40
                  refine wp_iload rfl rfl ?_
                  refine wp_iconst rfl ?_
                  refine wp_icge (tn := 24) rfl rfl (fun c41 => ?_) (fun c41 => ?_)
                  · replace H := H.1 c41
                    refine wp_vret rfl rfl ?_
                    show Wp X _ 213 77 [vr 53, vi x1, vi x2, vi x3, vi (-49)] [] _ _
                    refine wp_iload rfl rfl ?_
                    refine wp_iconst rfl ?_
                    refine wp_iadd rfl ?_
                    refine Wp.topI (y := (x2 + 2)) (w32_I (by clear H; unfold R32; omega)) ?_
                    exact wp_iret rfl rfl H
                  · replace H := H.2 c41
                    refine wp_aload rfl rfl ?_
                    refine wp_getR (r := 54) rfl (congrArg Prod.fst (kf_53 X.1)) rfl ?_
                    refine wp_iload rfl rfl ?_
                    refine wp_iload rfl rfl ?_
                    refine wp_iastore rfl (kf_55 X.1) ⟨c40, c41⟩ ?_
                    refine wp_aload rfl rfl ?_
                    refine wp_getR (r := 55) rfl (congrArg Prod.fst (kf_53 X.1)) rfl ?_
                    refine wp_iload rfl rfl ?_
                    refine wp_iload rfl rfl ?_
                    refine wp_iastore rfl (kf_56 X.1) ⟨c40, c41⟩ ?_
                    refine wp_vret rfl rfl ?_
                    show Wp X _ 213 77 [vr 53, vi x1, vi x2, vi x3, vi (-49)] [] _ _
                    refine wp_iload rfl rfl ?_
                    refine wp_iconst rfl ?_
                    refine wp_iadd rfl ?_
                    refine Wp.topI (y := (x2 + 2)) (w32_I (by clear H; unfold R32; omega)) ?_
                    exact wp_iret rfl rfl H
            · replace H := H.2 c36
              refine wp_aload rfl rfl ?_
              refine wp_aload rfl rfl ?_
              refine wp_getI (j := 7) rfl (congrArg Prod.fst (kf_53 X.1)) rfl ?_
              refine wp_iload rfl rfl ?_
              refine wp_call (k := 253) (ρ2 := 0) (L2 := [vi (h 53 7), vi (-49)]) rfl rfl rfl (Nat.le_of_ble_eq_true rfl) (Nat.le_of_ble_eq_true rfl) (Nat.le_of_ble_eq_true rfl) (rcv_S rfl) rfl ?_
              refine wp_iload rfl rfl ?_
              refine wp_iload rfl rfl ?_
              refine wp_icgt (tn := 9) rfl rfl (fun c42 => ?_) (fun c42 => ?_)
              · replace H := H.1 c42
                refine wp_iload rfl rfl ?_
                refine wp_iret rfl rfl ?_
                show Wp X _ 213 46 [vr 53, vi x1, vi x2, vi x3, vi (-49)] [vi (-49), vr 53] _ _
                refine wp_putI (j := 7) rfl (congrArg Prod.fst (kf_53 X.1)) rfl rfl rfl ?_
                refine wp_goto (tn := 65) rfl rfl ?_
                refine wp_aload rfl rfl ?_
                refine wp_iload rfl rfl ?_
                refine wp_aload rfl rfl ?_
                refine wp_iload rfl rfl ?_
                refine wp_call (k := 218) (ρ2 := 0) (L2 := [vr 53, vi x2]) rfl rfl rfl (Nat.le_of_ble_eq_true rfl) (Nat.le_of_ble_eq_true rfl) (Nat.le_of_ble_eq_true rfl) (rcv_V rfl (congrArg Prod.fst (kf_53 X.1))) rfl ?_
                refine wp_iload rfl rfl ?_
                refine wp_ifltF (tn := 21) rfl rfl g35.1 ?_
                refine wp_iload rfl rfl ?_
                refine wp_aload rfl rfl ?_
                refine wp_getI (j := 4) rfl (congrArg Prod.fst (kf_53 X.1)) rfl ?_
                refine Wp.topI (y := (h 53 4)) (upd2_o (by decide)) ?_
                refine wp_icgeF (tn := 21) rfl rfl c23 ?_
                refine wp_aload rfl rfl ?_
                refine wp_getR (r := 53) rfl (congrArg Prod.fst (kf_53 X.1)) rfl ?_
                refine wp_iload rfl rfl ?_
                refine wp_iaload rfl (kf_54 X.1) ⟨g35.1, g35.2⟩ ?_
                refine Wp.topI (y := (h 54 x2)) (congrFun (upd2_ne (by decide)) _) ?_
                refine wp_goto (tn := 22) rfl rfl ?_
                refine wp_iret rfl rfl ?_
                show Wp X _ 213 72 [vr 53, vi x1, vi x2, vi x3, vi (-49)] [vi (h 54 x2), vi x1, vr 53] _ _
                refine wp_iload rfl rfl ?_
                refine wp_call (k := 215) (ρ2 := 0) (L2 := [vr 53, vi x1, vi (h 54 x2), vi (-49)]) rfl rfl rfl (Nat.le_of_ble_eq_true rfl) (Nat.le_of_ble_eq_true rfl) (Nat.le_of_ble_eq_true rfl) (rcv_V rfl (congrArg Prod.fst (kf_53 X.1))) rfl ?_
                refine wp_iload rfl rfl ?_
                refine wp_iflt (tn := 24) rfl rfl (fun c43 => ?_) (fun c43 => ?_)
                · replace H := H.1 c43
                  refine wp_vret rfl rfl ?_
                  show Wp X _ 213 77 [vr 53, vi x1, vi x2, vi x3, vi (-49)] [] _ _
                  refine wp_iload rfl rfl ?_
                  refine wp_iconst rfl ?_
                  refine wp_iadd rfl ?_
                  refine Wp.topI (y := (x2 + 2)) (w32_I (by clear H; unfold R32; omega)) ?_
                  exact wp_iret rfl rfl H
                · replace H := H.2 c43
                  refine wp_iload rfl rfl ?_
                  refine wp_iconst rfl ?_
                  refine wp_icge (tn := 24) rfl rfl (fun c44 => ?_) (fun c44 => ?_)
                  · replace H := H.1 c44
                    refine wp_vret rfl rfl ?_
                    show Wp X _ 213 77 [vr 53, vi x1, vi x2, vi x3, vi (-49)] [] _ _
                    refine wp_iload rfl rfl ?_
                    refine wp_iconst rfl ?_
                    refine wp_iadd rfl ?_
                    refine Wp.topI (y := (x2 + 2)) (w32_I (by clear H; unfold R32; omega)) ?_
                    exact wp_iret rfl rfl H
                  · replace H := H.2 c44
                    refine wp_aload rfl rfl ?_
                    refine wp_getR (r := 54) rfl (congrArg Prod.fst (kf_53 X.1)) rfl ?_
                    refine wp_iload rfl rfl ?_
                    refine wp_iload rfl rfl ?_
                    refine wp_iastore rfl (kf_55 X.1) ⟨c43, c44⟩ ?_
                    refine wp_aload rfl rfl ?_
                    refine wp_getR (r := 55) rfl (congrArg Prod.fst (kf_53 X.1)) rfl ?_
                    refine wp_iload rfl rfl ?_
                    refine wp_iload rfl rfl ?_
                    refine wp_iastore rfl (kf_56 X.1) ⟨c43, c44⟩ ?_
                    refine wp_vret rfl rfl ?_
                    show Wp X _ 213 77 [vr 53, vi x1, vi x2, vi x3, vi (-49)] [] _ _
                    refine wp_iload rfl rfl ?_
                    refine wp_iconst rfl ?_
                    refine wp_iadd rfl ?_
                    refine Wp.topI (y := (x2 + 2)) (w32_I (by clear H; unfold R32; omega)) ?_
                    exact wp_iret rfl rfl H
              · replace H := H.2 c42
                refine wp_iload rfl rfl ?_
                refine wp_goto (tn := 10) rfl rfl ?_
                refine wp_iret rfl rfl ?_
                show Wp X _ 213 46 [vr 53, vi x1, vi x2, vi x3, vi (-49)] [vi (h 53 7), vr 53] _ _
                refine wp_putI (j := 7) rfl (congrArg Prod.fst (kf_53 X.1)) rfl rfl rfl ?_
                refine wp_goto (tn := 65) rfl rfl ?_
                refine wp_aload rfl rfl ?_
                refine wp_iload rfl rfl ?_
                refine wp_aload rfl rfl ?_
                refine wp_iload rfl rfl ?_
                refine wp_call (k := 218) (ρ2 := 0) (L2 := [vr 53, vi x2]) rfl rfl rfl (Nat.le_of_ble_eq_true rfl) (Nat.le_of_ble_eq_true rfl) (Nat.le_of_ble_eq_true rfl) (rcv_V rfl (congrArg Prod.fst (kf_53 X.1))) rfl ?_
                refine wp_iload rfl rfl ?_
                refine wp_ifltF (tn := 21) rfl rfl g35.1 ?_
                refine wp_iload rfl rfl ?_
                refine wp_aload rfl rfl ?_
                refine wp_getI (j := 4) rfl (congrArg Prod.fst (kf_53 X.1)) rfl ?_
                refine Wp.topI (y := (h 53 4)) (upd2_o (by decide)) ?_
                refine wp_icgeF (tn := 21) rfl rfl c23 ?_
                refine wp_aload rfl rfl ?_
                refine wp_getR (r := 53) rfl (congrArg Prod.fst (kf_53 X.1)) rfl ?_
                refine wp_iload rfl rfl ?_
                refine wp_iaload rfl (kf_54 X.1) ⟨g35.1, g35.2⟩ ?_
                refine Wp.topI (y := (h 54 x2)) (congrFun (upd2_ne (by decide)) _) ?_
                refine wp_goto (tn := 22) rfl rfl ?_
                refine wp_iret rfl rfl ?_
                show Wp X _ 213 72 [vr 53, vi x1, vi x2, vi x3, vi (-49)] [vi (h 54 x2), vi x1, vr 53] _ _
                refine wp_iload rfl rfl ?_
                refine wp_call (k := 215) (ρ2 := 0) (L2 := [vr 53, vi x1, vi (h 54 x2), vi (-49)]) rfl rfl rfl (Nat.le_of_ble_eq_true rfl) (Nat.le_of_ble_eq_true rfl) (Nat.le_of_ble_eq_true rfl) (rcv_V rfl (congrArg Prod.fst (kf_53 X.1))) rfl ?_
                refine wp_iload rfl rfl ?_
                refine wp_iflt (tn := 24) rfl rfl (fun c45 => ?_) (fun c45 => ?_)
                · replace H := H.1 c45
                  refine wp_vret rfl rfl ?_
                  show Wp X _ 213 77 [vr 53, vi x1, vi x2, vi x3, vi (-49)] [] _ _
                  refine wp_iload rfl rfl ?_
                  refine wp_iconst rfl ?_
                  refine wp_iadd rfl ?_
                  refine Wp.topI (y := (x2 + 2)) (w32_I (by clear H; unfold R32; omega)) ?_
                  exact wp_iret rfl rfl H
                · replace H := H.2 c45
                  refine wp_iload rfl rfl ?_
                  refine wp_iconst rfl ?_
                  refine wp_icge (tn := 24) rfl rfl (fun c46 => ?_) (fun c46 => ?_)
                  · replace H := H.1 c46
                    refine wp_vret rfl rfl ?_
                    show Wp X _ 213 77 [vr 53, vi x1, vi x2, vi x3, vi (-49)] [] _ _
                    refine wp_iload rfl rfl ?_
                    refine wp_iconst rfl ?_
                    refine wp_iadd rfl ?_
                    refine Wp.topI (y := (x2 + 2)) (w32_I (by clear H; unfold R32; omega)) ?_
                    exact wp_iret rfl rfl H
                  · replace H := H.2 c46
                    refine wp_aload rfl rfl ?_
                    refine wp_getR (r := 54) rfl (congrArg Prod.fst (kf_53 X.1)) rfl ?_
                    refine wp_iload rfl rfl ?_
                    refine wp_iload rfl rfl ?_
                    refine wp_iastore rfl (kf_55 X.1) ⟨c45, c46⟩ ?_
                    refine wp_aload rfl rfl ?_
                    refine wp_getR (r := 55) rfl (congrArg Prod.fst (kf_53 X.1)) rfl ?_
                    refine wp_iload rfl rfl ?_
                    refine wp_iload rfl rfl ?_
                    refine wp_iastore rfl (kf_56 X.1) ⟨c45, c46⟩ ?_
                    refine wp_vret rfl rfl ?_
                    show Wp X _ 213 77 [vr 53, vi x1, vi x2, vi x3, vi (-49)] [] _ _
                    refine wp_iload rfl rfl ?_
                    refine wp_iconst rfl ?_
                    refine wp_iadd rfl ?_
                    refine Wp.topI (y := (x2 + 2)) (w32_I (by clear H; unfold R32; omega)) ?_
                    exact wp_iret rfl rfl H
    · replace H := H.2 c15
      refine wp_aload rfl rfl ?_
      refine wp_getR (r := 53) rfl (congrArg Prod.fst (kf_53 X.1)) rfl ?_
      refine wp_iload rfl rfl ?_
      have g47 := H.1
      replace H := H.2
      refine wp_iaload rfl (kf_54 X.1) g47 ?_
      refine wp_goto (tn := 22) rfl rfl ?_
      refine wp_iret rfl rfl ?_
      show Wp X _ 217 5 [vr 53, vi (x2 + 1), vi x3, vi 9, vu] [vi (h 54 (x2 + 1))] _ _
      refine wp_iconst rfl ?_
      refine wp_isub rfl ?_
      have g48 := H.1
      replace H := H.2
      refine Wp.topI (y := ((h 54 (x2 + 1)) - 48)) (w32_I g48) ?_
      refine wp_istore (L2 := [vr 53, vi (x2 + 1), vi x3, vi 9, vi ((h 54 (x2 + 1)) - 48)]) rfl (Nat.le_of_ble_eq_true rfl) rfl ?_
      refine wp_iload rfl rfl ?_
      refine wp_iload rfl rfl ?_
      refine wp_iclt (tn := 22) rfl rfl (fun c49 => ?_) (fun c49 => ?_)
      · replace H := H.1 c49
        refine wp_iconst rfl ?_
        refine wp_goto (tn := 28) rfl rfl ?_
        refine wp_iret rfl rfl ?_
        show Wp X _ 213 10 [vr 53, vi x1, vi x2, vi x3, vu] [vi (-1)] _ _
        refine wp_istore (L2 := [vr 53, vi x1, vi x2, vi x3, vi (-1)]) rfl (Nat.le_of_ble_eq_true rfl) rfl ?_
        refine wp_iload rfl rfl ?_
        refine wp_iconst rfl ?_
        refine wp_icneF (tn := 26) rfl rfl (by decide) ?_
        refine wp_aload rfl rfl ?_
        refine wp_iload rfl rfl ?_
        refine wp_iconst rfl ?_
        refine wp_iadd rfl ?_
        refine Wp.topI (y := (x2 + 1)) (w32_I (by clear H; unfold R32; omega)) ?_
        refine wp_call (k := 216) (ρ2 := 0) (L2 := [vr 53, vi (x2 + 1)]) rfl rfl rfl (Nat.le_of_ble_eq_true rfl) (Nat.le_of_ble_eq_true rfl) (Nat.le_of_ble_eq_true rfl) (rcv_V rfl (congrArg Prod.fst (kf_53 X.1))) rfl ?_
        refine wp_aload rfl rfl ?_
        refine wp_iload rfl rfl ?_
        refine wp_putI (j := 6) rfl (congrArg Prod.fst (kf_53 X.1)) rfl rfl rfl ?_
        refine wp_iload rfl rfl ?_
        refine wp_iret rfl rfl ?_
        show Wp X _ 213 25 [vr 53, vi x1, vi x2, vi x3, vi (-1)] [vi (x2 + 1)] _ _
        exact wp_iret rfl rfl H
      · replace H := H.2 c49
        refine wp_iload rfl rfl ?_
        refine wp_iload rfl rfl ?_
        refine wp_icle (tn := 26) rfl rfl (fun c50 => ?_) (fun c50 => ?_)
        · replace H := H.1 c50
          refine wp_iload rfl rfl ?_
          refine wp_iret rfl rfl ?_
          show Wp X _ 213 10 [vr 53, vi x1, vi x2, vi x3, vu] [vi ((h 54 (x2 + 1)) - 48)] _ _
          refine wp_istore (L2 := [vr 53, vi x1, vi x2, vi x3, vi ((h 54 (x2 + 1)) - 48)]) rfl (Nat.le_of_ble_eq_true rfl) rfl ?_
          refine wp_iload rfl rfl ?_
          refine wp_iconst rfl ?_
          refine wp_icne (tn := 26) rfl rfl (fun c51 => ?_) (fun c51 => ?_)
          · replace H := H.1 c51
            refine wp_aload rfl rfl ?_
            refine wp_iload rfl rfl ?_
            refine wp_call (k := 218) (ρ2 := 0) (L2 := [vr 53, vi x2]) rfl rfl rfl (Nat.le_of_ble_eq_true rfl) (Nat.le_of_ble_eq_true rfl) (Nat.le_of_ble_eq_true rfl) (rcv_V rfl (congrArg Prod.fst (kf_53 X.1))) rfl ?_
            refine wp_iload rfl rfl ?_
            refine wp_iflt (tn := 21) rfl rfl (fun c52 => ?_) (fun c52 => ?_)
            · replace H := H.1 c52
              refine wp_iconst rfl ?_
              refine wp_iret rfl rfl ?_
              show Wp X _ 213 31 [vr 53, vi x1, vi x2, vi x3, vi ((h 54 (x2 + 1)) - 48)] [vi (-1)] _ _
              refine wp_iconst rfl ?_
              refine wp_icneT (tn := 52) rfl rfl (by decide) ?_
              refine wp_aload rfl rfl ?_
              refine wp_aload rfl rfl ?_
              refine wp_getI (j := 8) rfl (congrArg Prod.fst (kf_53 X.1)) rfl ?_
              refine wp_iload rfl rfl ?_
              refine wp_call (k := 253) (ρ2 := 0) (L2 := [vi (h 53 8), vi ((h 54 (x2 + 1)) - 48)]) rfl rfl rfl (Nat.le_of_ble_eq_true rfl) (Nat.le_of_ble_eq_true rfl) (Nat.le_of_ble_eq_true rfl) (rcv_S rfl) rfl ?_
              refine wp_iload rfl rfl ?_
              refine wp_iload rfl rfl ?_
              refine wp_icgt (tn := 9) rfl rfl (fun c53 => ?_) (fun c53 => ?_)
              · replace H := H.1 c53
                refine wp_iload rfl rfl ?_
                refine wp_iret rfl rfl ?_
                show Wp X _ 213 62 [vr 53, vi x1, vi x2, vi x3, vi ((h 54 (x2 + 1)) - 48)] [vi ((h 54 (x2 + 1)) - 48), vr 53] _ _
                refine wp_putI (j := 8) rfl (congrArg Prod.fst (kf_53 X.1)) rfl rfl rfl ?_
                refine wp_aload rfl rfl ?_
                refine wp_iload rfl rfl ?_
                refine wp_aload rfl rfl ?_
                refine wp_iload rfl rfl ?_
                refine wp_call (k := 218) (ρ2 := 0) (L2 := [vr 53, vi x2]) rfl rfl rfl (Nat.le_of_ble_eq_true rfl) (Nat.le_of_ble_eq_true rfl) (Nat.le_of_ble_eq_true rfl) (rcv_V rfl (congrArg Prod.fst (kf_53 X.1))) rfl ?_
                refine wp_iload rfl rfl ?_
                refine wp_ifltT (tn := 21) rfl rfl c52 ?_
                refine wp_iconst rfl ?_
                refine wp_iret rfl rfl ?_
                show Wp X _ 213 72 [vr 53, vi x1, vi x2, vi x3, vi ((h 54 (x2 + 1)) - 48)] [vi (-1), vi x1, vr 53] _ _
                refine wp_iload rfl rfl ?_
                refine wp_call (k := 215) (ρ2 := 0) (L2 := [vr 53, vi x1, vi (-1), vi ((h 54 (x2 + 1)) - 48)]) rfl rfl rfl (Nat.le_of_ble_eq_true rfl) (Nat.le_of_ble_eq_true rfl) (Nat.le_of_ble_eq_true rfl) (rcv_V rfl (congrArg Prod.fst (kf_53 X.1))) rfl ?_
                refine wp_iload rfl rfl ?_
                refine wp_iflt (tn := 24) rfl rfl (fun c54 => ?_) (fun c54 => ?_)
                · replace H := H.1 c54
                  refine wp_vret rfl rfl ?_
                  show Wp X _ 213 77 [vr 53, vi x1, vi x2, vi x3, vi ((h 54 (x2 + 1)) - 48)] [] _ _
                  refine wp_iload rfl rfl ?_
                  refine wp_iconst rfl ?_
                  refine wp_iadd rfl ?_
                  refine Wp.topI (y := (x2 + 2)) (w32_I (by clear H; unfold R32; omega)) ?_
                  exact wp_iret rfl rfl H
                · replace H := H.2 c54
                  refine wp_iload rfl rfl ?_
                  refine wp_iconst rfl ?_
                  refine wp_icge (tn := 24) rfl rfl (fun c55 => ?_) (fun c55 => ?_)
                  · replace H := H.1 c55
                    refine wp_vret rfl rfl ?_
                    show Wp X _ 213 77 [vr 53, vi x1, vi x2, vi x3, vi ((h 54 (x2 + 1)) - 48)] [] _ _
                    refine wp_iload rfl rfl ?_
                    refine wp_iconst rfl ?_
                    refine wp_iadd rfl ?_
                    refine Wp.topI (y := (x2 + 2)) (w32_I (by clear H; unfold R32; omega)) ?_
                    exact wp_iret rfl rfl H
                  · replace H := H.2 c55
                    refine wp_aload rfl rfl ?_
                    refine wp_getR (r := 54) rfl (congrArg Prod.fst (kf_53 X.1)) rfl ?_
                    refine wp_iload rfl rfl ?_
                    refine wp_iload rfl rfl ?_
                    refine wp_iastore rfl (kf_55 X.1) ⟨c54, c55⟩ ?_
                    refine wp_aload rfl rfl ?_
                    refine wp_getR (r := 55) rfl (congrArg Prod.fst (kf_53 X.1)) rfl ?_
                    refine wp_iload rfl rfl ?_
                    refine wp_iload rfl rfl ?_
                    refine wp_iastore rfl (kf_56 X.1) ⟨c54, c55⟩ ?_
                    refine wp_vret rfl rfl ?_
                    show Wp X _ 213 77 [vr 53, vi x1, vi x2, vi x3, vi ((h 54 (x2 + 1)) - 48)] [] _ _
                    refine wp_iload rfl rfl ?_
                    refine wp_iconst rfl ?_
                    refine wp_iadd rfl ?_
                    refine Wp.topI (y := (x2 + 2)) (w32_I (by clear H; unfold R32; omega)) ?_
                    exact wp_iret rfl rfl H
              · replace H := H.2 c53
                refine wp_iload rfl rfl ?_
                refine wp_goto (tn := 10) rfl rfl ?_
                refine wp_iret rfl rfl ?_
                show Wp X _ 213 62 [vr 53, vi x1, vi x2, vi x3, vi ((h 54 (x2 + 1)) - 48)] [vi (h 53 8), vr 53] _ _
                refine wp_putI (j := 8) rfl (congrArg Prod.fst (kf_53 X.1)) rfl rfl rfl ?_
                refine wp_aload rfl rfl ?_
                refine wp_iload rfl rfl ?_
                refine wp_aload rfl rfl ?_
                refine wp_iload rfl rfl ?_
                refine wp_call (k := 218) (ρ2 := 0) (L2 := [vr 53, vi x2]) rfl rfl rfl (Nat.le_of_ble_eq_true rfl) (Nat.le_of_ble_eq_true rfl) (Nat.le_of_ble_eq_true rfl) (rcv_V rfl (congrArg Prod.fst (kf_53 X.1))) rfl ?_
                refine wp_iload rfl rfl ?_
                refine wp_ifltT (tn := 21) rfl rfl c52 ?_
                refine wp_iconst rfl ?_
                refine wp_iret rfl rfl ?_
                show Wp X _ 213 72 [vr 53, vi x1, vi x2, vi x3, vi ((h 54 (x2 + 1)) - 48)] [vi (-1), vi x1, vr 53] _ _
                refine wp_iload rfl rfl ?_
                refine wp_call (k := 215) (ρ2 := 0) (L2 := [vr 53, vi x1, vi (-1), vi ((h 54 (x2 + 1)) - 48)]) rfl rfl rfl (Nat.le_of_ble_eq_true rfl) (Nat.le_of_ble_eq_true rfl) (Nat.le_of_ble_eq_true rfl) (rcv_V rfl (congrArg Prod.fst (kf_53 X.1))) rfl ?_
                refine wp_iload rfl rfl ?_
                refine wp_iflt (tn := 24) rfl rfl (fun c56 => ?_) (fun c56 => ?_)
                · replace H := H.1 c56
                  refine wp_vret rfl rfl ?_
                  show Wp X _ 213 77 [vr 53, vi x1, vi x2, vi x3, vi ((h 54 (x2 + 1)) - 48)] [] _ _
                  refine wp_iload rfl rfl ?_
                  refine wp_iconst rfl ?_
                  refine wp_iadd rfl ?_
                  refine Wp.topI (y := (x2 + 2)) (w32_I (by clear H; unfold R32; omega)) ?_
                  exact wp_iret rfl rfl H
                · replace H := H.2 c56
                  refine wp_iload rfl rfl ?_
                  refine wp_iconst rfl ?_
                  refine wp_icge (tn := 24) rfl rfl (fun c57 => ?_) (fun c57 => ?_)
                  · replace H := H.1 c57
                    refine wp_vret rfl rfl ?_
                    show Wp X _ 213 77 [vr 53, vi x1, vi x2, vi x3, vi ((h 54 (x2 + 1)) - 48)] [] _ _
                    refine wp_iload rfl rfl ?_
                    refine wp_iconst rfl ?_
                    refine wp_iadd rfl ?_
                    refine Wp.topI (y := (x2 + 2)) (w32_I (by clear H; unfold R32; omega)) ?_
                    exact wp_iret rfl rfl H
                  · replace H := H.2 c57
                    refine wp_aload rfl rfl ?_
                    refine wp_getR (r := 54) rfl (congrArg Prod.fst (kf_53 X.1)) rfl ?_
                    refine wp_iload rfl rfl ?_
                    refine wp_iload rfl rfl ?_
                    refine wp_iastore rfl (kf_55 X.1) ⟨c56, c57⟩ ?_
                    refine wp_aload rfl rfl ?_
                    refine wp_getR (r := 55) rfl (congrArg Prod.fst (kf_53 X.1)) rfl ?_
                    refine wp_iload rfl rfl ?_
                    refine wp_iload rfl rfl ?_
                    refine wp_iastore rfl (kf_56 X.1) ⟨c56, c57⟩ ?_
                    refine wp_vret rfl rfl ?_
                    show Wp X _ 213 77 [vr 53, vi x1, vi x2, vi x3, vi ((h 54 (x2 + 1)) - 48)] [] _ _
                    refine wp_iload rfl rfl ?_
                    refine wp_iconst rfl ?_
                    refine wp_iadd rfl ?_
                    refine Wp.topI (y := (x2 + 2)) (w32_I (by clear H; unfold R32; omega)) ?_
                    exact wp_iret rfl rfl H
            · replace H := H.2 c52
              refine wp_iload rfl rfl ?_
              refine wp_aload rfl rfl ?_
              refine wp_getI (j := 4) rfl (congrArg Prod.fst (kf_53 X.1)) rfl ?_
              refine wp_icge (tn := 21) rfl rfl (fun c58 => ?_) (fun c58 => ?_)
              · replace H := H.1 c58
                refine wp_iconst rfl ?_
                refine wp_iret rfl rfl ?_
                show Wp X _ 213 31 [vr 53, vi x1, vi x2, vi x3, vi ((h 54 (x2 + 1)) - 48)] [vi (-1)] _ _
                refine wp_iconst rfl ?_
                refine wp_icneT (tn := 52) rfl rfl (by decide) ?_
                refine wp_aload rfl rfl ?_
                refine wp_aload rfl rfl ?_
                refine wp_getI (j := 8) rfl (congrArg Prod.fst (kf_53 X.1)) rfl ?_
                refine wp_iload rfl rfl ?_
                refine wp_call (k := 253) (ρ2 := 0) (L2 := [vi (h 53 8), vi ((h 54 (x2 + 1)) - 48)]) rfl rfl rfl (Nat.le_of_ble_eq_true rfl) (Nat.le_of_ble_eq_true rfl) (Nat.le_of_ble_eq_true rfl) (rcv_S rfl) rfl ?_
                refine wp_iload rfl rfl ?_
                refine wp_iload rfl rfl ?_
                refine wp_icgt (tn := 9) rfl rfl (fun c59 => ?_) (fun c59 => ?_)
                · replace H := H.1 c59
                  refine wp_iload rfl rfl ?_
                  refine wp_iret rfl rfl ?_
                  show Wp X _ 213 62 [vr 53, vi x1, vi x2, vi x3, vi ((h 54 (x2 + 1)) - 48)] [vi ((h 54 (x2 + 1)) - 48), vr 53] _ _
                  refine wp_putI (j := 8) rfl (congrArg Prod.fst (kf_53 X.1)) rfl rfl rfl ?_
                  refine wp_aload rfl rfl ?_
                  refine wp_iload rfl rfl ?_
                  refine wp_aload rfl rfl ?_
                  refine wp_iload rfl rfl ?_
                  refine wp_call (k := 218) (ρ2 := 0) (L2 := [vr 53, vi x2]) rfl rfl rfl (Nat.le_of_ble_eq_true rfl) (Nat.le_of_ble_eq_true rfl) (Nat.le_of_ble_eq_true rfl) (rcv_V rfl (congrArg Prod.fst (kf_53 X.1))) rfl ?_
                  refine wp_iload rfl rfl ?_
                  refine wp_ifltF (tn := 21) rfl rfl c52 ?_
                  refine wp_iload rfl rfl ?_
                  refine wp_aload rfl rfl ?_
                  refine wp_getI (j := 4) rfl (congrArg Prod.fst (kf_53 X.1)) rfl ?_
                  refine Wp.topI (y := (h 53 4)) (upd2_o (by decide)) ?_
                  refine wp_icgeT (tn := 21) rfl rfl c58 ?_
                  refine wp_iconst rfl ?_
                  refine wp_iret rfl rfl ?_
                  show Wp X _ 213 72 [vr 53, vi x1, vi x2, vi x3, vi ((h 54 (x2 + 1)) - 48)] [vi (-1), vi x1, vr 53] _ _
                  refine wp_iload rfl rfl ?_
                  refine wp_call (k := 215) (ρ2 := 0) (L2 := [vr 53, vi x1, vi (-1), vi ((h 54 (x2 + 1)) - 48)]) rfl rfl rfl (Nat.le_of_ble_eq_true rfl) (Nat.le_of_ble_eq_true rfl) (Nat.le_of_ble_eq_true rfl) (rcv_V rfl (congrArg Prod.fst (kf_53 X.1))) rfl ?_
                  refine wp_iload rfl rfl ?_
                  refine wp_iflt (tn := 24) rfl rfl (fun c60 => ?_) (fun c60 => ?_)
                  · replace H := H.1 c60
                    refine wp_vret rfl rfl ?_
                    show Wp X _ 213 77 [vr 53, vi x1, vi x2, vi x3, vi ((h 54 (x2 + 1)) - 48)] [] _ _
                    refine wp_iload rfl rfl ?_
                    refine wp_iconst rfl ?_
                    refine wp_iadd rfl ?_
                    refine Wp.topI (y := (x2 + 2)) (w32_I (by clear H; unfold R32; omega)) ?_
                    exact wp_iret rfl rfl H
                  · replace H := H.2 c60
                    refine wp_iload rfl rfl ?_
                    refine wp_iconst rfl ?_
                    refine wp_icge (tn := 24) rfl rfl (fun c61 => ?_) (fun c61 => ?_)
                    · replace H := H.1 c61
                      refine wp_vret rfl rfl ?_
                      show Wp X _ 213 77 [vr 53, vi x1, vi x2, vi x3, vi ((h 54 (x2 + 1)) - 48)] [] _ _
                      refine wp_iload rfl rfl ?_
                      refine wp_iconst rfl ?_
                      refine wp_iadd rfl ?_
                      refine Wp.topI (y := (x2 + 2)) (w32_I (by clear H; unfold R32; omega)) ?_
                      exact wp_iret rfl rfl H
                    · replace H := H.2 c61
                      refine wp_aload rfl rfl ?_
                      refine wp_getR (r := 54) rfl (congrArg Prod.fst (kf_53 X.1)) rfl ?_
                      refine wp_iload rfl rfl ?_
                      refine wp_iload rfl rfl ?_
                      refine wp_iastore rfl (kf_55 X.1) ⟨c60, c61⟩ ?_
                      refine wp_aload rfl rfl ?_
                      refine wp_getR (r := 55) rfl (congrArg Prod.fst (kf_53 X.1)) rfl ?_
                      refine wp_iload rfl rfl ?_
                      refine wp_iload rfl rfl ?_
                      refine wp_iastore rfl (kf_56 X.1) ⟨c60, c61⟩ ?_
                      refine wp_vret rfl rfl ?_
                      show Wp X _ 213 77 [vr 53, vi x1, vi x2, vi x3, vi ((h 54 (x2 + 1)) - 48)] [] _ _
                      refine wp_iload rfl rfl ?_
                      refine wp_iconst rfl ?_
                      refine wp_iadd rfl ?_
                      refine Wp.topI (y := (x2 + 2)) (w32_I (by clear H; unfold R32; omega)) ?_
                      exact wp_iret rfl rfl H
                · replace H := H.2 c59
                  refine wp_iload rfl rfl ?_
                  refine wp_goto (tn := 10) rfl rfl ?_
                  refine wp_iret rfl rfl ?_
                  show Wp X _ 213 62 [vr 53, vi x1, vi x2, vi x3, vi ((h 54 (x2 + 1)) - 48)] [vi (h 53 8), vr 53] _ _
                  refine wp_putI (j := 8) rfl (congrArg Prod.fst (kf_53 X.1)) rfl rfl rfl ?_
                  refine wp_aload rfl rfl ?_
                  refine wp_iload rfl rfl ?_
                  refine wp_aload rfl rfl ?_
                  refine wp_iload rfl rfl ?_
                  refine wp_call (k := 218) (ρ2 := 0) (L2 := [vr 53, vi x2]) rfl rfl rfl (Nat.le_of_ble_eq_true rfl) (Nat.le_of_ble_eq_true rfl) (Nat.le_of_ble_eq_true rfl) (rcv_V rfl (congrArg Prod.fst (kf_53 X.1))) rfl ?_
                  refine wp_iload rfl rfl ?_
                  refine wp_ifltF (tn := 21) rfl rfl c52 ?_
                  refine wp_iload rfl rfl ?_
                  refine wp_aload rfl rfl ?_
                  refine wp_getI (j := 4) rfl (congrArg Prod.fst (kf_53 X.1)) rfl ?_
                  refine Wp.topI (y := (h 53 4)) (upd2_o (by decide)) ?_
                  refine wp_icgeT (tn := 21) rfl rfl c58 ?_
                  refine wp_iconst rfl ?_
                  refine wp_iret rfl rfl ?_
                  show Wp X _ 213 72 [vr 53, vi x1, vi x2, vi x3, vi ((h 54 (x2 + 1)) - 48)] [vi (-1), vi x1, vr 53] _ _
                  refine wp_iload rfl rfl ?_
                  refine wp_call (k := 215) (ρ2 := 0) (L2 := [vr 53, vi x1, vi (-1), vi ((h 54 (x2 + 1)) - 48)]) rfl rfl rfl (Nat.le_of_ble_eq_true rfl) (Nat.le_of_ble_eq_true rfl) (Nat.le_of_ble_eq_true rfl) (rcv_V rfl (congrArg Prod.fst (kf_53 X.1))) rfl ?_
                  refine wp_iload rfl rfl ?_
                  refine wp_iflt (tn := 24) rfl rfl (fun c62 => ?_) (fun c62 => ?_)
                  · replace H := H.1 c62
                    refine wp_vret rfl rfl ?_
                    show Wp X _ 213 77 [vr 53, vi x1, vi x2, vi x3, vi ((h 54 (x2 + 1)) - 48)] [] _ _
                    refine wp_iload rfl rfl ?_
                    refine wp_iconst rfl ?_
                    refine wp_iadd rfl ?_
                    refine Wp.topI (y := (x2 + 2)) (w32_I (by clear H; unfold R32; omega)) ?_
                    exact wp_iret rfl rfl H
                  · replace H := H.2 c62
                    refine wp_iload rfl rfl ?_
                    refine wp_iconst rfl ?_
                    refine wp_icge (tn := 24) rfl rfl (fun c63 => ?_) (fun c63 => ?_)
                    · replace H := H.1 c63
                      refine wp_vret rfl rfl ?_
                      show Wp X _ 213 77 [vr 53, vi x1, vi x2, vi x3, vi ((h 54 (x2 + 1)) - 48)] [] _ _
                      refine wp_iload rfl rfl ?_
                      refine wp_iconst rfl ?_
                      refine wp_iadd rfl ?_
                      refine Wp.topI (y := (x2 + 2)) (w32_I (by clear H; unfold R32; omega)) ?_
                      exact wp_iret rfl rfl H
                    · replace H := H.2 c63
                      refine wp_aload rfl rfl ?_
                      refine wp_getR (r := 54) rfl (congrArg Prod.fst (kf_53 X.1)) rfl ?_
                      refine wp_iload rfl rfl ?_
                      refine wp_iload rfl rfl ?_
                      refine wp_iastore rfl (kf_55 X.1) ⟨c62, c63⟩ ?_
                      refine wp_aload rfl rfl ?_
                      refine wp_getR (r := 55) rfl (congrArg Prod.fst (kf_53 X.1)) rfl ?_
                      refine wp_iload rfl rfl ?_
                      refine wp_iload rfl rfl ?_
                      refine wp_iastore rfl (kf_56 X.1) ⟨c62, c63⟩ ?_
                      refine wp_vret rfl rfl ?_
                      show Wp X _ 213 77 [vr 53, vi x1, vi x2, vi x3, vi ((h 54 (x2 + 1)) - 48)] [] _ _
                      refine wp_iload rfl rfl ?_
                      refine wp_iconst rfl ?_
                      refine wp_iadd rfl ?_
                      refine Wp.topI (y := (x2 + 2)) (w32_I (by clear H; unfold R32; omega)) ?_
                      exact wp_iret rfl rfl H
              · replace H := H.2 c58
                refine wp_aload rfl rfl ?_
                refine wp_getR (r := 53) rfl (congrArg Prod.fst (kf_53 X.1)) rfl ?_
                refine wp_iload rfl rfl ?_
                refine wp_iaload rfl (kf_54 X.1) ⟨c52, (by clear H; omega)⟩ ?_
                refine wp_goto (tn := 22) rfl rfl ?_
                refine wp_iret rfl rfl ?_
                show Wp X _ 213 31 [vr 53, vi x1, vi x2, vi x3, vi ((h 54 (x2 + 1)) - 48)] [vi (h 54 x2)] _ _
                refine wp_iconst rfl ?_
                refine wp_icne (tn := 52) rfl rfl (fun c64 => ?_) (fun c64 => ?_)
                · replace H := H.1 c64
                  refine wp_aload rfl rfl ?_
                  refine wp_aload rfl rfl ?_
                  refine wp_getI (j := 8) rfl (congrArg Prod.fst (kf_53 X.1)) rfl ?_
                  refine wp_iload rfl rfl ?_
                  refine wp_call (k := 253) (ρ2 := 0) (L2 := [vi (h 53 8), vi ((h 54 (x2 + 1)) - 48)]) rfl rfl rfl (Nat.le_of_ble_eq_true rfl) (Nat.le_of_ble_eq_true rfl) (Nat.le_of_ble_eq_true rfl) (rcv_S rfl) rfl ?_
                  refine wp_iload rfl rfl ?_
                  refine wp_iload rfl rfl ?_
                  refine wp_icgt (tn := 9) rfl rfl (fun c65 => ?_) (fun c65 => ?_)
                  · replace H := H.1 c65
                    refine wp_iload rfl rfl ?_
                    refine wp_iret rfl rfl ?_
                    show Wp X _ 213 62 [vr 53, vi x1, vi x2, vi x3, vi ((h 54 (x2 + 1)) - 48)] [vi ((h 54 (x2 + 1)) - 48), vr 53] _ _
                    refine wp_putI (j := 8) rfl (congrArg Prod.fst (kf_53 X.1)) rfl rfl rfl ?_
                    refine wp_aload rfl rfl ?_
                    refine wp_iload rfl rfl ?_
                    refine wp_aload rfl rfl ?_
                    refine wp_iload rfl rfl ?_
                    refine wp_call (k := 218) (ρ2 := 0) (L2 := [vr 53, vi x2]) rfl rfl rfl (Nat.le_of_ble_eq_true rfl) (Nat.le_of_ble_eq_true rfl) (Nat.le_of_ble_eq_true rfl) (rcv_V rfl (congrArg Prod.fst (kf_53 X.1))) rfl ?_
                    refine wp_iload rfl rfl ?_
                    refine wp_ifltF (tn := 21) rfl rfl c52 ?_
                    refine wp_iload rfl rfl ?_
                    refine wp_aload rfl rfl ?_
                    refine wp_getI (j := 4) rfl (congrArg Prod.fst (kf_53 X.1)) rfl ?_
                    refine Wp.topI (y := (h 53 4)) (upd2_o (by decide)) ?_
                    refine wp_icgeF (tn := 21) rfl rfl c58 ?_
                    refine wp_aload rfl rfl ?_
                    refine wp_getR (r := 53) rfl (congrArg Prod.fst (kf_53 X.1)) rfl ?_
                    refine wp_iload rfl rfl ?_
                    refine wp_iaload rfl (kf_54 X.1) ⟨c52, (by clear H; omega)⟩ ?_
                    refine Wp.topI (y := (h 54 x2)) (congrFun (upd2_ne (by decide)) _) ?_
                    refine wp_goto (tn := 22) rfl rfl ?_
                    refine wp_iret rfl rfl ?_
                    show Wp X _ 213 72 [vr 53, vi x1, vi x2, vi x3, vi ((h 54 (x2 + 1)) - 48)] [vi (h 54 x2), vi x1, vr 53] _ _
                    refine wp_iload rfl rfl ?_
                    refine wp_call (k := 215) (ρ2 := 0) (L2 := [vr 53, vi x1, vi (h 54 x2), vi ((h 54 (x2 + 1)) - 48)]) rfl rfl rfl (Nat.le_of_ble_eq_true rfl) (Nat.le_of_ble_eq_true rfl) (Nat.le_of_ble_eq_true rfl) (rcv_V rfl (congrArg Prod.fst (kf_53 X.1))) rfl ?_
                    refine wp_iload rfl rfl ?_
                    refine wp_iflt (tn := 24) rfl rfl (fun c66 => ?_) (fun c66 => ?_)
                    · replace H := H.1 c66
                      refine wp_vret rfl rfl ?_
                      show Wp X _ 213 77 [vr 53, vi x1, vi x2, vi x3, vi ((h 54 (x2 + 1)) - 48)] [] _ _
                      refine wp_iload rfl rfl ?_
                      refine wp_iconst rfl ?_
                      refine wp_iadd rfl ?_
                      refine Wp.topI (y := (x2 + 2)) (w32_I (by clear H; unfold R32; omega)) ?_
                      exact wp_iret rfl rfl H
                    · replace H := H.2 c66
                      refine wp_iload rfl rfl ?_
                      refine wp_iconst rfl ?_
                      refine wp_icge (tn := 24) rfl rfl (fun c67 => ?_) (fun c67 => ?_)
                      · replace H := H.1 c67
                        refine wp_vret rfl rfl ?_
                        show Wp X _ 213 77 [vr 53, vi x1, vi x2, vi x3, vi ((h 54 (x2 + 1)) - 48)] [] _ _
                        refine wp_iload rfl rfl ?_
                        refine wp_iconst rfl ?_
                        refine wp_iadd rfl ?_
                        refine Wp.topI (y := (x2 + 2)) (w32_I (by clear H; unfold R32; omega)) ?_
                        exact wp_iret rfl rfl H
                      · replace H := H.2 c67
                        refine wp_aload rfl rfl ?_
                        refine wp_getR (r := 54) rfl (congrArg Prod.fst (kf_53 X.1)) rfl ?_
                        refine wp_iload rfl rfl ?_
                        refine wp_iload rfl rfl ?_
                        refine wp_iastore rfl (kf_55 X.1) ⟨c66, c67⟩ ?_
                        refine wp_aload rfl rfl ?_
                        refine wp_getR (r := 55) rfl (congrArg Prod.fst (kf_53 X.1)) rfl ?_
                        refine wp_iload rfl rfl ?_
                        refine wp_iload rfl rfl ?_
                        refine wp_iastore rfl (kf_56 X.1) ⟨c66, c67⟩ ?_
                        refine wp_vret rfl rfl ?_
                        show Wp X _ 213 77 [vr 53, vi x1, vi x2, vi x3, vi ((h 54 (x2 + 1)) - 48)] [] _ _
                        refine wp_iload rfl rfl ?_
                        refine wp_iconst rfl ?_
                        refine wp_iadd rfl ?_
                        refine Wp.topI (y := (x2 + 2)) (w32_I (by clear H; unfold R32; omega)) ?_
                        exact wp_iret rfl rfl H
                  · replace H := H.2 c65
                    refine wp_iload rfl rfl ?_
                    refine wp_goto (tn := 10) rfl rfl ?_
                    refine wp_iret rfl rfl ?_
                    show Wp X _ 213 62 [vr 53, vi x1, vi x2, vi x3, vi ((h 54 (x2 + 1)) - 48)] [vi (h 53 8), vr 53] _ _
                    refine wp_putI (j := 8) rfl (congrArg Prod.fst (kf_53 X.1)) rfl rfl rfl ?_
                    refine wp_aload rfl rfl ?_
                    refine wp_iload rfl rfl ?_
                    refine wp_aload rfl rfl ?_
                    refine wp_iload rfl rfl ?_
                    refine wp_call (k := 218) (ρ2 := 0) (L2 := [vr 53, vi x2]) rfl rfl rfl (Nat.le_of_ble_eq_true rfl) (Nat.le_of_ble_eq_true rfl) (Nat.le_of_ble_eq_true rfl) (rcv_V rfl (congrArg Prod.fst (kf_53 X.1))) rfl ?_
                    refine wp_iload rfl rfl ?_
                    refine wp_ifltF (tn := 21) rfl rfl c52 ?_
                    refine wp_iload rfl rfl ?_
                    refine wp_aload rfl rfl ?_
                    refine wp_getI (j := 4) rfl (congrArg Prod.fst (kf_53 X.1)) rfl ?_
                    refine Wp.topI (y := (h 53 4)) (upd2_o (by decide)) ?_
                    refine wp_icgeF (tn := 21) rfl rfl c58 ?_
                    refine wp_aload rfl rfl ?_
                    refine wp_getR (r := 53) rfl (congrArg Prod.fst (kf_53 X.1)) rfl ?_
                    refine wp_iload rfl rfl ?_
                    refine wp_iaload rfl (kf_54 X.1) ⟨c52, (by clear H; omega)⟩ ?_
                    refine Wp.topI (y := (h 54 x2)) (congrFun (upd2_ne (by decide)) _) ?_
                    refine wp_goto (tn := 22) rfl rfl ?_
                    refine wp_iret rfl rfl ?_
                    show Wp X _ 213 72 [vr 53, vi x1, vi x2, vi x3, vi ((h 54 (x2 + 1)) - 48)] [vi (h 54 x2), vi x1, vr 53] _ _
                    refine wp_iload rfl rfl ?_
                    refine wp_call (k := 215) (ρ2 := 0) (L2 := [vr 53, vi x1, vi (h 54 x2), vi ((h 54 (x2 + 1)) - 48)]) rfl rfl rfl (Nat.le_of_ble_eq_true rfl) (Nat.le_of_ble_eq_true rfl) (Nat.le_of_ble_eq_true rfl) (rcv_V rfl (congrArg Prod.fst (kf_53 X.1))) rfl ?_
                    refine wp_iload rfl rfl ?_
                    refine wp_iflt (tn := 24) rfl rfl (fun c68 => ?_) (fun c68 => ?_)
                    · replace H := H.1 c68
                      refine wp_vret rfl rfl ?_
                      show Wp X _ 213 77 [vr 53, vi x1, vi x2, vi x3, vi ((h 54 (x2 + 1)) - 48)] [] _ _
                      refine wp_iload rfl rfl ?_
                      refine wp_iconst rfl ?_
                      refine wp_iadd rfl ?_
                      refine Wp.topI (y := (x2 + 2)) (w32_I (by clear H; unfold R32; omega)) ?_
                      exact wp_iret rfl rfl H
                    · replace H := H.2 c68
                      refine wp_iload rfl rfl ?_
                      refine wp_iconst rfl ?_
                      refine wp_icge (tn := 24) rfl rfl (fun c69 => ?_) (fun c69 => ?_)
                      · replace H := H.1 c69
                        refine wp_vret rfl rfl ?_
                        show Wp X _ 213 77 [vr 53, vi x1, vi x2, vi x3, vi ((h 54 (x2 + 1)) - 48)] [] _ _
                        refine wp_iload rfl rfl ?_
                        refine wp_iconst rfl ?_
                        refine wp_iadd rfl ?_
                        refine Wp.topI (y := (x2 + 2)) (w32_I (by clear H; unfold R32; omega)) ?_
                        exact wp_iret rfl rfl H
                      · replace H := H.2 c69
                        refine wp_aload rfl rfl ?_
                        refine wp_getR (r := 54) rfl (congrArg Prod.fst (kf_53 X.1)) rfl ?_
                        refine wp_iload rfl rfl ?_
                        refine wp_iload rfl rfl ?_
                        refine wp_iastore rfl (kf_55 X.1) ⟨c68, c69⟩ ?_
                        refine wp_aload rfl rfl ?_
                        refine wp_getR (r := 55) rfl (congrArg Prod.fst (kf_53 X.1)) rfl ?_
                        refine wp_iload rfl rfl ?_
                        refine wp_iload rfl rfl ?_
                        refine wp_iastore rfl (kf_56 X.1) ⟨c68, c69⟩ ?_
                        refine wp_vret rfl rfl ?_
                        show Wp X _ 213 77 [vr 53, vi x1, vi x2, vi x3, vi ((h 54 (x2 + 1)) - 48)] [] _ _
                        refine wp_iload rfl rfl ?_
                        refine wp_iconst rfl ?_
                        refine wp_iadd rfl ?_
                        refine Wp.topI (y := (x2 + 2)) (w32_I (by clear H; unfold R32; omega)) ?_
                        exact wp_iret rfl rfl H
                · replace H := H.2 c64
                  refine wp_aload rfl rfl ?_
                  refine wp_aload rfl rfl ?_
                  refine wp_getI (j := 7) rfl (congrArg Prod.fst (kf_53 X.1)) rfl ?_
                  refine wp_iload rfl rfl ?_
                  refine wp_call (k := 253) (ρ2 := 0) (L2 := [vi (h 53 7), vi ((h 54 (x2 + 1)) - 48)]) rfl rfl rfl (Nat.le_of_ble_eq_true rfl) (Nat.le_of_ble_eq_true rfl) (Nat.le_of_ble_eq_true rfl) (rcv_S rfl) rfl ?_
                  refine wp_iload rfl rfl ?_
                  refine wp_iload rfl rfl ?_
                  refine wp_icgt (tn := 9) rfl rfl (fun c70 => ?_) (fun c70 => ?_)
                  · replace H := H.1 c70
                    refine wp_iload rfl rfl ?_
                    refine wp_iret rfl rfl ?_
                    show Wp X _ 213 46 [vr 53, vi x1, vi x2, vi x3, vi ((h 54 (x2 + 1)) - 48)] [vi ((h 54 (x2 + 1)) - 48), vr 53] _ _
                    refine wp_putI (j := 7) rfl (congrArg Prod.fst (kf_53 X.1)) rfl rfl rfl ?_
                    refine wp_goto (tn := 65) rfl rfl ?_
                    refine wp_aload rfl rfl ?_
                    refine wp_iload rfl rfl ?_
                    refine wp_aload rfl rfl ?_
                    refine wp_iload rfl rfl ?_
                    refine wp_call (k := 218) (ρ2 := 0) (L2 := [vr 53, vi x2]) rfl rfl rfl (Nat.le_of_ble_eq_true rfl) (Nat.le_of_ble_eq_true rfl) (Nat.le_of_ble_eq_true rfl) (rcv_V rfl (congrArg Prod.fst (kf_53 X.1))) rfl ?_
                    refine wp_iload rfl rfl ?_
                    refine wp_ifltF (tn := 21) rfl rfl c52 ?_
                    refine wp_iload rfl rfl ?_
                    refine wp_aload rfl rfl ?_
                    refine wp_getI (j := 4) rfl (congrArg Prod.fst (kf_53 X.1)) rfl ?_
                    refine Wp.topI (y := (h 53 4)) (upd2_o (by decide)) ?_
                    refine wp_icgeF (tn := 21) rfl rfl c58 ?_
                    refine wp_aload rfl rfl ?_
                    refine wp_getR (r := 53) rfl (congrArg Prod.fst (kf_53 X.1)) rfl ?_
                    refine wp_iload rfl rfl ?_
                    refine wp_iaload rfl (kf_54 X.1) ⟨c52, (by clear H; omega)⟩ ?_
                    refine Wp.topI (y := (h 54 x2)) (congrFun (upd2_ne (by decide)) _) ?_
                    refine wp_goto (tn := 22) rfl rfl ?_
                    refine wp_iret rfl rfl ?_
                    show Wp X _ 213 72 [vr 53, vi x1, vi x2, vi x3, vi ((h 54 (x2 + 1)) - 48)] [vi (h 54 x2), vi x1, vr 53] _ _
                    refine wp_iload rfl rfl ?_
                    refine wp_call (k := 215) (ρ2 := 0) (L2 := [vr 53, vi x1, vi (h 54 x2), vi ((h 54 (x2 + 1)) - 48)]) rfl rfl rfl (Nat.le_of_ble_eq_true rfl) (Nat.le_of_ble_eq_true rfl) (Nat.le_of_ble_eq_true rfl) (rcv_V rfl (congrArg Prod.fst (kf_53 X.1))) rfl ?_
                    refine wp_iload rfl rfl ?_
                    refine wp_iflt (tn := 24) rfl rfl (fun c71 => ?_) (fun c71 => ?_)
                    · replace H := H.1 c71
                      refine wp_vret rfl rfl ?_
                      show Wp X _ 213 77 [vr 53, vi x1, vi x2, vi x3, vi ((h 54 (x2 + 1)) - 48)] [] _ _
                      refine wp_iload rfl rfl ?_
                      refine wp_iconst rfl ?_
                      refine wp_iadd rfl ?_
                      refine Wp.topI (y := (x2 + 2)) (w32_I (by clear H; unfold R32; omega)) ?_
                      exact wp_iret rfl rfl H
                    · replace H := H.2 c71
                      refine wp_iload rfl rfl ?_
                      refine wp_iconst rfl ?_
                      refine wp_icge (tn := 24) rfl rfl (fun c72 => ?_) (fun c72 => ?_)
                      · replace H := H.1 c72
                        refine wp_vret rfl rfl ?_
                        show Wp X _ 213 77 [vr 53, vi x1, vi x2, vi x3, vi ((h 54 (x2 + 1)) - 48)] [] _ _
                        refine wp_iload rfl rfl ?_
                        refine wp_iconst rfl ?_
                        refine wp_iadd rfl ?_
                        refine Wp.topI (y := (x2 + 2)) (w32_I (by clear H; unfold R32; omega)) ?_
                        exact wp_iret rfl rfl H
                      · replace H := H.2 c72
                        refine wp_aload rfl rfl ?_
                        refine wp_getR (r := 54) rfl (congrArg Prod.fst (kf_53 X.1)) rfl ?_
                        refine wp_iload rfl rfl ?_
                        refine wp_iload rfl rfl ?_
                        refine wp_iastore rfl (kf_55 X.1) ⟨c71, c72⟩ ?_
                        refine wp_aload rfl rfl ?_
                        refine wp_getR (r := 55) rfl (congrArg Prod.fst (kf_53 X.1)) rfl ?_
                        refine wp_iload rfl rfl ?_
                        refine wp_iload rfl rfl ?_
                        refine wp_iastore rfl (kf_56 X.1) ⟨c71, c72⟩ ?_
                        refine wp_vret rfl rfl ?_
                        show Wp X _ 213 77 [vr 53, vi x1, vi x2, vi x3, vi ((h 54 (x2 + 1)) - 48)] [] _ _
                        refine wp_iload rfl rfl ?_
                        refine wp_iconst rfl ?_
                        refine wp_iadd rfl ?_
                        refine Wp.topI (y := (x2 + 2)) (w32_I (by clear H; unfold R32; omega)) ?_
                        exact wp_iret rfl rfl H
                  · replace H := H.2 c70
                    refine wp_iload rfl rfl ?_
                    refine wp_goto (tn := 10) rfl rfl ?_
                    refine wp_iret rfl rfl ?_
                    show Wp X _ 213 46 [vr 53, vi x1, vi x2, vi x3, vi ((h 54 (x2 + 1)) - 48)] [vi (h 53 7), vr 53] _ _
                    refine wp_putI (j := 7) rfl (congrArg Prod.fst (kf_53 X.1)) rfl rfl rfl ?_
                    refine wp_goto (tn := 65) rfl rfl ?_
                    refine wp_aload rfl rfl ?_
                    refine wp_iload rfl rfl ?_
                    refine wp_aload rfl rfl ?_
                    refine wp_iload rfl rfl ?_
                    refine wp_call (k := 218) (ρ2 := 0) (L2 := [vr 53, vi x2]) rfl rfl rfl (Nat.le_of_ble_eq_true rfl) (Nat.le_of_ble_eq_true rfl) (Nat.le_of_ble_eq_true rfl) (rcv_V rfl (congrArg Prod.fst (kf_53 X.1))) rfl ?_
                    refine wp_iload rfl rfl ?_
                    refine wp_ifltF (tn := 21) rfl rfl c52 ?_
                    refine wp_iload rfl rfl ?_
                    refine wp_aload rfl rfl ?_
                    refine wp_getI (j := 4) rfl (congrArg Prod.fst (kf_53 X.1)) rfl ?_
                    refine Wp.topI (y := (h 53 4)) (upd2_o (by decide)) ?_
                    refine wp_icgeF (tn := 21) rfl rfl c58 ?_
                    refine wp_aload rfl rfl ?_
                    refine wp_getR (r := 53) rfl (congrArg Prod.fst (kf_53 X.1)) rfl ?_
                    refine wp_iload rfl rfl ?_
                    refine wp_iaload rfl (kf_54 X.1) ⟨c52, (by clear H; omega)⟩ ?_
                    refine Wp.topI (y := (h 54 x2)) (congrFun (upd2_ne (by decide)) _) ?_
                    refine wp_goto (tn := 22) rfl rfl ?_
                    refine wp_iret rfl rfl ?_
                    show Wp X _ 213 72 [vr 53, vi x1, vi x2, vi x3, vi ((h 54 (x2 + 1)) - 48)] [vi (h 54 x2), vi x1, vr 53] _ _
                    refine wp_iload rfl rfl ?_
                    refine wp_call (k := 215) (ρ2 := 0) (L2 := [vr 53, vi x1, vi (h 54 x2), vi ((h 54 (x2 + 1)) - 48)]) rfl rfl rfl (Nat.le_of_ble_eq_true rfl) (Nat.le_of_ble_eq_true rfl) (Nat.le_of_ble_eq_true rfl) (rcv_V rfl (congrArg Prod.fst (kf_53 X.1))) rfl ?_
                    refine wp_iload rfl rfl ?_
                    refine wp_iflt (tn := 24) rfl rfl (fun c73 => ?_) (fun c73 => ?_)
                    · replace H := H.1 c73
                      refine wp_vret rfl rfl ?_
                      show Wp X _ 213 77 [vr 53, vi x1, vi x2, vi x3, vi ((h 54 (x2 + 1)) - 48)] [] _ _
                      refine wp_iload rfl rfl ?_
                      refine wp_iconst rfl ?_
                      refine wp_iadd rfl ?_
                      refine Wp.topI (y := (x2 + 2)) (w32_I (by clear H; unfold R32; omega)) ?_
                      exact wp_iret rfl rfl H
                    · replace H := H.2 c73
                      refine wp_iload rfl rfl ?_
                      refine wp_iconst rfl ?_
                      refine wp_icge (tn := 24) rfl rfl (fun c74 => ?_) (fun c74 => ?_)
                      · replace H := H.1 c74
                        refine wp_vret rfl rfl ?_
                        show Wp X _ 213 77 [vr 53, vi x1, vi x2, vi x3, vi ((h 54 (x2 + 1)) - 48)] [] _ _
                        refine wp_iload rfl rfl ?_
                        refine wp_iconst rfl ?_
                        refine wp_iadd rfl ?_
                        refine Wp.topI (y := (x2 + 2)) (w32_I (by clear H; unfold R32; omega)) ?_
                        exact wp_iret rfl rfl H
                      · replace H := H.2 c74
                        refine wp_aload rfl rfl ?_
                        refine wp_getR (r := 54) rfl (congrArg Prod.fst (kf_53 X.1)) rfl ?_
                        refine wp_iload rfl rfl ?_
                        refine wp_iload rfl rfl ?_
                        refine wp_iastore rfl (kf_55 X.1) ⟨c73, c74⟩ ?_
                        refine wp_aload rfl rfl ?_
                        refine wp_getR (r := 55) rfl (congrArg Prod.fst (kf_53 X.1)) rfl ?_
                        refine wp_iload rfl rfl ?_
                        refine wp_iload rfl rfl ?_
                        refine wp_iastore rfl (kf_56 X.1) ⟨c73, c74⟩ ?_
                        refine wp_vret rfl rfl ?_
                        show Wp X _ 213 77 [vr 53, vi x1, vi x2, vi x3, vi ((h 54 (x2 + 1)) - 48)] [] _ _
                        refine wp_iload rfl rfl ?_
                        refine wp_iconst rfl ?_
                        refine wp_iadd rfl ?_
                        refine Wp.topI (y := (x2 + 2)) (w32_I (by clear H; unfold R32; omega)) ?_
                        exact wp_iret rfl rfl H
          · replace H := H.2 c51
            refine wp_aload rfl rfl ?_
            refine wp_iload rfl rfl ?_
            refine wp_iconst rfl ?_
            refine wp_iadd rfl ?_
            refine Wp.topI (y := (x2 + 1)) (w32_I (by clear H; unfold R32; omega)) ?_
            refine wp_call (k := 216) (ρ2 := 0) (L2 := [vr 53, vi (x2 + 1)]) rfl rfl rfl (Nat.le_of_ble_eq_true rfl) (Nat.le_of_ble_eq_true rfl) (Nat.le_of_ble_eq_true rfl) (rcv_V rfl (congrArg Prod.fst (kf_53 X.1))) rfl ?_
            refine wp_aload rfl rfl ?_
            refine wp_iload rfl rfl ?_
            refine wp_putI (j := 6) rfl (congrArg Prod.fst (kf_53 X.1)) rfl rfl rfl ?_
            refine wp_iload rfl rfl ?_
            refine wp_iret rfl rfl ?_
            show Wp X _ 213 25 [vr 53, vi x1, vi x2, vi x3, vi ((h 54 (x2 + 1)) - 48)] [vi (x2 + 1)] _ _
            exact wp_iret rfl rfl H
        · replace H := H.2 c50
          refine wp_iconst rfl ?_
          refine wp_goto (tn := 28) rfl rfl ?_
          refine wp_iret rfl rfl ?_
          show Wp X _ 213 10 [vr 53, vi x1, vi x2, vi x3, vu] [vi (-1)] _ _
          refine wp_istore (L2 := [vr 53, vi x1, vi x2, vi x3, vi (-1)]) rfl (Nat.le_of_ble_eq_true rfl) rfl ?_
          refine wp_iload rfl rfl ?_
          refine wp_iconst rfl ?_
          refine wp_icneF (tn := 26) rfl rfl (by decide) ?_
          refine wp_aload rfl rfl ?_
          refine wp_iload rfl rfl ?_
          refine wp_iconst rfl ?_
          refine wp_iadd rfl ?_
          refine Wp.topI (y := (x2 + 1)) (w32_I (by clear H; unfold R32; omega)) ?_
          refine wp_call (k := 216) (ρ2 := 0) (L2 := [vr 53, vi (x2 + 1)]) rfl rfl rfl (Nat.le_of_ble_eq_true rfl) (Nat.le_of_ble_eq_true rfl) (Nat.le_of_ble_eq_true rfl) (rcv_V rfl (congrArg Prod.fst (kf_53 X.1))) rfl ?_
          refine wp_aload rfl rfl ?_
          refine wp_iload rfl rfl ?_
          refine wp_putI (j := 6) rfl (congrArg Prod.fst (kf_53 X.1)) rfl rfl rfl ?_
          refine wp_iload rfl rfl ?_
          refine wp_iret rfl rfl ?_
          show Wp X _ 213 25 [vr 53, vi x1, vi x2, vi x3, vi (-1)] [vi (x2 + 1)] _ _
          exact wp_iret rfl rfl H
/-- RuleText.readZoneRule(II)I, from 0 -/
theorem S214_45_0 {X : Nat × (Int → Int)} {h : HP} {Q : bQ} (x1 : Int) (x2 : Int) (H : ((R32 (x2 + 1)) ∧ (((x2 + 1) < 0 → Q (some (vi (x2 + 1))) (upd2 h 45 6 (x2 + 1))) ∧ (0 ≤ (x2 + 1) → (((h 45 4) ≤ (x2 + 1) → Q (some (vi (x2 + 1))) (upd2 h 45 6 (x2 + 1))) ∧ ((x2 + 1) < (h 45 4) → ((0 ≤ (x2 + 1) ∧ (x2 + 1) < 50) ∧ ((R32 ((h 46 (x2 + 1)) - 48)) ∧ ((((h 46 (x2 + 1)) - 48) < 1 → Q (some (vi (x2 + 1))) (upd2 h 45 6 (x2 + 1))) ∧ (1 ≤ ((h 46 (x2 + 1)) - 48) → ((((h 46 (x2 + 1)) - 48) ≤ 5 → (((h 45 4) ≤ (x2 + 2) → Q (some (vi (x2 + 2))) (upd2 h 45 6 (x2 + 2))) ∧ ((x2 + 2) < (h 45 4) → ((0 ≤ (x2 + 2) ∧ (x2 + 2) < 50) ∧ (((h 46 (x2 + 2)) = 47 → (((h 45 4) ≤ (x2 + 3) → Q (some (vi (x2 + 3))) (upd2 h 45 6 (x2 + 3))) ∧ ((x2 + 3) < (h 45 4) → ((0 ≤ (x2 + 3) ∧ (x2 + 3) < 50) ∧ ((R32 ((h 46 (x2 + 3)) - 48)) ∧ ((((h 46 (x2 + 3)) - 48) < ((h 46 (x2 + 1)) - 48) → Q (some (vi (x2 + 3))) (upd2 h 45 6 (x2 + 3))) ∧ (((h 46 (x2 + 1)) - 48) ≤ ((h 46 (x2 + 3)) - 48) → ((((h 46 (x2 + 3)) - 48) ≤ 5 → ((((h 46 (x2 + 3)) - 48) ≠ (-1) → (((h 45 4) ≤ (x2 + 4) → Q (some (vi (x2 + 4))) (upd2 h 45 6 (x2 + 4))) ∧ ((x2 + 4) < (h 45 4) → ((0 ≤ (x2 + 4) ∧ (x2 + 4) < 50) ∧ (((h 46 (x2 + 4)) = 62 → (((h 45 4) ≤ (x2 + 5) → Q (some (vi (x2 + 5))) (upd2 h 45 6 (x2 + 5))) ∧ ((x2 + 5) < (h 45 4) → ((0 ≤ (x2 + 5) ∧ (x2 + 5) < 50) ∧ ((R32 ((h 46 (x2 + 5)) - 48)) ∧ ((((h 46 (x2 + 5)) - 48) < 0 → Q (some (vi (x2 + 5))) (upd2 h 45 6 (x2 + 5))) ∧ (0 ≤ ((h 46 (x2 + 5)) - 48) → ((((h 46 (x2 + 5)) - 48) ≤ 3 → Wp X 1 245 0 [vr 49, vi x1, vi ((h 46 (x2 + 1)) - 48), vi ((h 46 (x2 + 3)) - 48), vi ((h 46 (x2 + 5)) - 48), vu, vu] [] h (fun v h' => Wp X 2 214 126 [vr 45, vi x1, vi x2, vi ((h 46 (x2 + 1)) - 48), vi ((h 46 (x2 + 3)) - 48), vi ((h 46 (x2 + 5)) - 48)] (psh v []) h' Q)) ∧ (3 < ((h 46 (x2 + 5)) - 48) → Q (some (vi (x2 + 5))) (upd2 h 45 6 (x2 + 5))))))))))) ∧ ((h 46 (x2 + 4)) ≠ 62 → Q (some (vi (x2 + 4))) (upd2 h 45 6 (x2 + 4)))))))) ∧ (((h 46 (x2 + 3)) - 48) = (-1) → Q (some (vi (x2 + 3))) (upd2 h 45 6 (x2 + 3))))) ∧ (5 < ((h 46 (x2 + 3)) - 48) → Q (some (vi (x2 + 3))) (upd2 h 45 6 (x2 + 3))))))))))) ∧ ((h 46 (x2 + 2)) ≠ 47 → Q (some (vi (x2 + 2))) (upd2 h 45 6 (x2 + 2)))))))) ∧ (5 < ((h 46 (x2 + 1)) - 48) → Q (some (vi (x2 + 1))) (upd2 h 45 6 (x2 + 1)))))))))))))) : Wp X 2 214 0 [vr 45, vi x1, vi x2, vu, vu, vu] [] h Q := by
  refine wp_aload rfl rfl ?_
  refine wp_iload rfl rfl ?_
  refine wp_iconst rfl ?_
  refine wp_iadd rfl ?_
  have g1 := H.1
  replace H := H.2
  refine Wp.topI (y := (x2 + 1)) (w32_I g1) ?_
  refine wp_iconst rfl ?_
  refine wp_iconst rfl ?_
  refine wp_call (k := 217) (ρ2 := 1) (L2 := [vr 45, vi (x2 + 1), vi 1, vi 5, vu]) rfl rfl rfl (Nat.le_of_ble_eq_true rfl) (Nat.le_of_ble_eq_true rfl) (Nat.le_of_ble_eq_true rfl) (rcv_V rfl (congrArg Prod.fst (kf_45 X.1))) rfl ?_
  refine wp_aload rfl rfl ?_
  refine wp_iload rfl rfl ?_
  refine wp_call (k := 218) (ρ2 := 0) (L2 := [vr 45, vi (x2 + 1)]) rfl rfl rfl (Nat.le_of_ble_eq_true rfl) (Nat.le_of_ble_eq_true rfl) (Nat.le_of_ble_eq_true rfl) (rcv_V rfl (congrArg Prod.fst (kf_45 X.1))) rfl ?_
  refine wp_iload rfl rfl ?_
  refine wp_iflt (tn := 21) rfl rfl (fun c2 => ?_) (fun c2 => ?_)
  · replace H := H.1 c2
    refine wp_iconst rfl ?_
    refine wp_iret rfl rfl ?_
    show Wp X _ 217 5 [vr 45, vi (x2 + 1), vi 1, vi 5, vu] [vi (-1)] _ _
    refine wp_iconst rfl ?_
    refine wp_isub rfl ?_
    refine Wp.topI (y := (-49)) (by decide) ?_
    refine wp_istore (L2 := [vr 45, vi (x2 + 1), vi 1, vi 5, vi (-49)]) rfl (Nat.le_of_ble_eq_true rfl) rfl ?_
    refine wp_iload rfl rfl ?_
    refine wp_iload rfl rfl ?_
    refine wp_icltT (tn := 22) rfl rfl (by decide) ?_
    refine wp_iconst rfl ?_
    refine wp_goto (tn := 28) rfl rfl ?_
    refine wp_iret rfl rfl ?_
    show Wp X _ 214 9 [vr 45, vi x1, vi x2, vu, vu, vu] [vi (-1)] _ _
    refine wp_istore (L2 := [vr 45, vi x1, vi x2, vi (-1), vu, vu]) rfl (Nat.le_of_ble_eq_true rfl) rfl ?_
    refine wp_iload rfl rfl ?_
    refine wp_iconst rfl ?_
    refine wp_icneF (tn := 23) rfl rfl (by decide) ?_
    refine wp_aload rfl rfl ?_
    refine wp_iload rfl rfl ?_
    refine wp_iconst rfl ?_
    refine wp_iadd rfl ?_
    refine Wp.topI (y := (x2 + 1)) (w32_I g1) ?_
    refine wp_call (k := 216) (ρ2 := 0) (L2 := [vr 45, vi (x2 + 1)]) rfl rfl rfl (Nat.le_of_ble_eq_true rfl) (Nat.le_of_ble_eq_true rfl) (Nat.le_of_ble_eq_true rfl) (rcv_V rfl (congrArg Prod.fst (kf_45 X.1))) rfl ?_
    refine wp_aload rfl rfl ?_
    refine wp_iload rfl rfl ?_
    refine wp_putI (j := 6) rfl (congrArg Prod.fst (kf_45 X.1)) rfl rfl rfl ?_
    refine wp_iload rfl rfl ?_
    refine wp_iret rfl rfl ?_
    show Wp X _ 214 22 [vr 45, vi x1, vi x2, vi (-1), vu, vu] [vi (x2 + 1)] _ _
    exact wp_iret rfl rfl H
  · replace H := H.2 c2
    refine wp_iload rfl rfl ?_
    refine wp_aload rfl rfl ?_
    refine wp_getI (j := 4) rfl (congrArg Prod.fst (kf_45 X.1)) rfl ?_
    refine wp_icge (tn := 21) rfl rfl (fun c3 => ?_) (fun c3 => ?_)
    · replace H := H.1 c3
      refine wp_iconst rfl ?_
      refine wp_iret rfl rfl ?_
      show Wp X _ 217 5 [vr 45, vi (x2 + 1), vi 1, vi 5, vu] [vi (-1)] _ _
      refine wp_iconst rfl ?_
      refine wp_isub rfl ?_
      refine Wp.topI (y := (-49)) (by decide) ?_
      refine wp_istore (L2 := [vr 45, vi (x2 + 1), vi 1, vi 5, vi (-49)]) rfl (Nat.le_of_ble_eq_true rfl) rfl ?_
      refine wp_iload rfl rfl ?_
      refine wp_iload rfl rfl ?_
      refine wp_icltT (tn := 22) rfl rfl (by decide) ?_
      refine wp_iconst rfl ?_
      refine wp_goto (tn := 28) rfl rfl ?_
      refine wp_iret rfl rfl ?_
      show Wp X _ 214 9 [vr 45, vi x1, vi x2, vu, vu, vu] [vi (-1)] _ _
      refine wp_istore (L2 := [vr 45, vi x1, vi x2, vi (-1), vu, vu]) rfl (Nat.le_of_ble_eq_true rfl) rfl ?_
      refine wp_iload rfl rfl ?_
      refine wp_iconst rfl ?_
      refine wp_icneF (tn := 23) rfl rfl (by decide) ?_
      refine wp_aload rfl rfl ?_
      refine wp_iload rfl rfl ?_
      refine wp_iconst rfl ?_
      refine wp_iadd rfl ?_
      refine Wp.topI (y := (x2 + 1)) (w32_I g1) ?_
      refine wp_call (k := 216) (ρ2 := 0) (L2 := [vr 45, vi (x2 + 1)]) rfl rfl rfl (Nat.le_of_ble_eq_true rfl) (Nat.le_of_ble_eq_true rfl) (Nat.le_of_ble_eq_true rfl) (rcv_V rfl (congrArg Prod.fst (kf_45 X.1))) rfl ?_
      refine wp_aload rfl rfl ?_
      refine wp_iload rfl rfl ?_
      refine wp_putI (j := 6) rfl (congrArg Prod.fst (kf_45 X.1)) rfl rfl rfl ?_
      refine wp_iload rfl rfl ?_
      refine wp_iret rfl rfl ?_
      show Wp X _ 214 22 [vr 45, vi x1, vi x2, vi (-1), vu, vu] [vi (x2 + 1)] _ _
      exact wp_iret rfl rfl H
    · replace H := H.2 c3
      refine wp_aload rfl rfl ?_
      refine wp_getR (r := 45) rfl (congrArg Prod.fst (kf_45 X.1)) rfl ?_
      refine wp_iload rfl rfl ?_
      have g4 := H.1
      replace H := H.2
      refine wp_iaload rfl (kf_46 X.1) g4 ?_
      refine wp_goto (tn := 22) rfl rfl ?_
      refine wp_iret rfl rfl ?_
      show Wp X _ 217 5 [vr 45, vi (x2 + 1), vi 1, vi 5, vu] [vi (h 46 (x2 + 1))] _ _
      refine wp_iconst rfl ?_
      refine wp_isub rfl ?_
      have g5 := H.1
      replace H := H.2
      refine Wp.topI (y := ((h 46 (x2 + 1)) - 48)) (w32_I g5) ?_
      refine wp_istore (L2 := [vr 45, vi (x2 + 1), vi 1, vi 5, vi ((h 46 (x2 + 1)) - 48)]) rfl (Nat.le_of_ble_eq_true rfl) rfl ?_
      refine wp_iload rfl rfl ?_
      refine wp_iload rfl rfl ?_
      refine wp_iclt (tn := 22) rfl rfl (fun c6 => ?_) (fun c6 => ?_)
      · replace H := H.1 c6
        refine wp_iconst rfl ?_
        refine wp_goto (tn := 28) rfl rfl ?_
        refine wp_iret rfl rfl ?_
        show Wp X _ 214 9 [vr 45, vi x1, vi x2, vu, vu, vu] [vi (-1)] _ _
        refine wp_istore (L2 := [vr 45, vi x1, vi x2, vi (-1), vu, vu]) rfl (Nat.le_of_ble_eq_true rfl) rfl ?_
        refine wp_iload rfl rfl ?_
        refine wp_iconst rfl ?_
        refine wp_icneF (tn := 23) rfl rfl (by decide) ?_
        refine wp_aload rfl rfl ?_
        refine wp_iload rfl rfl ?_
        refine wp_iconst rfl ?_
        refine wp_iadd rfl ?_
        refine Wp.topI (y := (x2 + 1)) (w32_I (by clear H; unfold R32; omega)) ?_
        refine wp_call (k := 216) (ρ2 := 0) (L2 := [vr 45, vi (x2 + 1)]) rfl rfl rfl (Nat.le_of_ble_eq_true rfl) (Nat.le_of_ble_eq_true rfl) (Nat.le_of_ble_eq_true rfl) (rcv_V rfl (congrArg Prod.fst (kf_45 X.1))) rfl ?_
        refine wp_aload rfl rfl ?_
        refine wp_iload rfl rfl ?_
        refine wp_putI (j := 6) rfl (congrArg Prod.fst (kf_45 X.1)) rfl rfl rfl ?_
        refine wp_iload rfl rfl ?_
        refine wp_iret rfl rfl ?_
        show Wp X _ 214 22 [vr 45, vi x1, vi x2, vi (-1), vu, vu] [vi (x2 + 1)] _ _
        exact wp_iret rfl rfl H
      · replace H := H.2 c6
        refine wp_iload rfl rfl ?_
        refine wp_iload rfl rfl ?_
        refine wp_icle (tn := 26) rfl rfl (fun c7 => ?_) (fun c7 => ?_)
        · replace H := H.1 c7
          refine wp_iload rfl rfl ?_
          refine wp_iret rfl rfl ?_
          show Wp X _ 214 9 [vr 45, vi x1, vi x2, vu, vu, vu] [vi ((h 46 (x2 + 1)) - 48)] _ _
          refine wp_istore (L2 := [vr 45, vi x1, vi x2, vi ((h 46 (x2 + 1)) - 48), vu, vu]) rfl (Nat.le_of_ble_eq_true rfl) rfl ?_
          refine wp_iload rfl rfl ?_
          refine wp_iconst rfl ?_
          refine wp_icneT (tn := 23) rfl rfl (by clear H; omega) ?_
          refine wp_aload rfl rfl ?_
          refine wp_iload rfl rfl ?_
          refine wp_iconst rfl ?_
          refine wp_iadd rfl ?_
          refine Wp.topI (y := (x2 + 2)) (w32_I (by clear H; unfold R32; omega)) ?_
          refine wp_call (k := 218) (ρ2 := 0) (L2 := [vr 45, vi (x2 + 2)]) rfl rfl rfl (Nat.le_of_ble_eq_true rfl) (Nat.le_of_ble_eq_true rfl) (Nat.le_of_ble_eq_true rfl) (rcv_V rfl (congrArg Prod.fst (kf_45 X.1))) rfl ?_
          refine wp_iload rfl rfl ?_
          refine wp_ifltF (tn := 21) rfl rfl (by clear H; omega) ?_
          refine wp_iload rfl rfl ?_
          refine wp_aload rfl rfl ?_
          refine wp_getI (j := 4) rfl (congrArg Prod.fst (kf_45 X.1)) rfl ?_
          refine wp_icge (tn := 21) rfl rfl (fun c8 => ?_) (fun c8 => ?_)
          · replace H := H.1 c8
            refine wp_iconst rfl ?_
            refine wp_iret rfl rfl ?_
            show Wp X _ 214 30 [vr 45, vi x1, vi x2, vi ((h 46 (x2 + 1)) - 48), vu, vu] [vi (-1)] _ _
            refine wp_iconst rfl ?_
            refine wp_iceqF (tn := 43) rfl rfl (by decide) ?_
            refine wp_aload rfl rfl ?_
            refine wp_iload rfl rfl ?_
            refine wp_iconst rfl ?_
            refine wp_iadd rfl ?_
            refine Wp.topI (y := (x2 + 2)) (w32_I (by clear H; unfold R32; omega)) ?_
            refine wp_call (k := 216) (ρ2 := 0) (L2 := [vr 45, vi (x2 + 2)]) rfl rfl rfl (Nat.le_of_ble_eq_true rfl) (Nat.le_of_ble_eq_true rfl) (Nat.le_of_ble_eq_true rfl) (rcv_V rfl (congrArg Prod.fst (kf_45 X.1))) rfl ?_
            refine wp_aload rfl rfl ?_
            refine wp_iload rfl rfl ?_
            refine wp_putI (j := 6) rfl (congrArg Prod.fst (kf_45 X.1)) rfl rfl rfl ?_
            refine wp_iload rfl rfl ?_
            refine wp_iret rfl rfl ?_
            show Wp X _ 214 42 [vr 45, vi x1, vi x2, vi ((h 46 (x2 + 1)) - 48), vu, vu] [vi (x2 + 2)] _ _
            exact wp_iret rfl rfl H
          · replace H := H.2 c8
            refine wp_aload rfl rfl ?_
            refine wp_getR (r := 45) rfl (congrArg Prod.fst (kf_45 X.1)) rfl ?_
            refine wp_iload rfl rfl ?_
            have g9 := H.1
            replace H := H.2
            refine wp_iaload rfl (kf_46 X.1) g9 ?_
            refine wp_goto (tn := 22) rfl rfl ?_
            refine wp_iret rfl rfl ?_
            show Wp X _ 214 30 [vr 45, vi x1, vi x2, vi ((h 46 (x2 + 1)) - 48), vu, vu] [vi (h 46 (x2 + 2))] _ _
            refine wp_iconst rfl ?_
            refine wp_iceq (tn := 43) rfl rfl (fun c10 => ?_) (fun c10 => ?_)
            · replace H := H.1 c10
              refine wp_aload rfl rfl ?_
              refine wp_iload rfl rfl ?_
              refine wp_iconst rfl ?_
              refine wp_iadd rfl ?_
              refine Wp.topI (y := (x2 + 3)) (w32_I (by clear H; unfold R32; omega)) ?_
              refine wp_iload rfl rfl ?_
              refine wp_iconst rfl ?_
              refine wp_call (k := 217) (ρ2 := 1) (L2 := [vr 45, vi (x2 + 3), vi ((h 46 (x2 + 1)) - 48), vi 5, vu]) rfl rfl rfl (Nat.le_of_ble_eq_true rfl) (Nat.le_of_ble_eq_true rfl) (Nat.le_of_ble_eq_true rfl) (rcv_V rfl (congrArg Prod.fst (kf_45 X.1))) rfl ?_
              refine wp_aload rfl rfl ?_
              refine wp_iload rfl rfl ?_
              refine wp_call (k := 218) (ρ2 := 0) (L2 := [vr 45, vi (x2 + 3)]) rfl rfl rfl (Nat.le_of_ble_eq_true rfl) (Nat.le_of_ble_eq_true rfl) (Nat.le_of_ble_eq_true rfl) (rcv_V rfl (congrArg Prod.fst (kf_45 X.1))) rfl ?_
              refine wp_iload rfl rfl ?_
              refine wp_ifltF (tn := 21) rfl rfl (by clear H; omega) ?_
              refine wp_iload rfl rfl ?_
              refine wp_aload rfl rfl ?_
              refine wp_getI (j := 4) rfl (congrArg Prod.fst (kf_45 X.1)) rfl ?_
              refine wp_icge (tn := 21) rfl rfl (fun c11 => ?_) (fun c11 => ?_)
              · replace H := H.1 c11
                refine wp_iconst rfl ?_
                refine wp_iret rfl rfl ?_
                show Wp X _ 217 5 [vr 45, vi (x2 + 3), vi ((h 46 (x2 + 1)) - 48), vi 5, vu] [vi (-1)] _ _
                refine wp_iconst rfl ?_
                refine wp_isub rfl ?_
                refine Wp.topI (y := (-49)) (by decide) ?_
                refine wp_istore (L2 := [vr 45, vi (x2 + 3), vi ((h 46 (x2 + 1)) - 48), vi 5, vi (-49)]) rfl (Nat.le_of_ble_eq_true rfl) rfl ?_
                refine wp_iload rfl rfl ?_
                refine wp_iload rfl rfl ?_
                refine wp_icltT (tn := 22) rfl rfl (by clear H; omega) ?_
                refine wp_iconst rfl ?_
                refine wp_goto (tn := 28) rfl rfl ?_
                refine wp_iret rfl rfl ?_
                show Wp X _ 214 52 [vr 45, vi x1, vi x2, vi ((h 46 (x2 + 1)) - 48), vu, vu] [vi (-1)] _ _
                refine wp_istore (L2 := [vr 45, vi x1, vi x2, vi ((h 46 (x2 + 1)) - 48), vi (-1), vu]) rfl (Nat.le_of_ble_eq_true rfl) rfl ?_
                refine wp_iload rfl rfl ?_
                refine wp_iconst rfl ?_
                refine wp_icneF (tn := 68) rfl rfl (by decide) ?_
                refine wp_aload rfl rfl ?_
                refine wp_iload rfl rfl ?_
                refine wp_iconst rfl ?_
                refine wp_iadd rfl ?_
                refine Wp.topI (y := (x2 + 3)) (w32_I (by clear H; unfold R32; omega)) ?_
                refine wp_call (k := 216) (ρ2 := 0) (L2 := [vr 45, vi (x2 + 3)]) rfl rfl rfl (Nat.le_of_ble_eq_true rfl) (Nat.le_of_ble_eq_true rfl) (Nat.le_of_ble_eq_true rfl) (rcv_V rfl (congrArg Prod.fst (kf_45 X.1))) rfl ?_
                refine wp_aload rfl rfl ?_
                refine wp_iload rfl rfl ?_
                refine wp_putI (j := 6) rfl (congrArg Prod.fst (kf_45 X.1)) rfl rfl rfl ?_
                refine wp_iload rfl rfl ?_
                refine wp_iret rfl rfl ?_
                show Wp X _ 214 67 [vr 45, vi x1, vi x2, vi ((h 46 (x2 + 1)) - 48), vi (-1), vu] [vi (x2 + 3)] _ _
                exact wp_iret rfl rfl H
              · replace H := H.2 c11
                refine wp_aload rfl rfl ?_
                refine wp_getR (r := 45) rfl (congrArg Prod.fst (kf_45 X.1)) rfl ?_
                refine wp_iload rfl rfl ?_
                have g12 := H.1
                replace H := H.2
                refine wp_iaload rfl (kf_46 X.1) g12 ?_
                refine wp_goto (tn := 22) rfl rfl ?_
                refine wp_iret rfl rfl ?_
                show Wp X _ 217 5 [vr 45, vi (x2 + 3), vi ((h 46 (x2 + 1)) - 48), vi 5, vu] [vi (h 46 (x2 + 3))] _ _
                refine wp_iconst rfl ?_
                refine wp_isub rfl ?_
                have g13 := H.1
                replace H := H.2
                refine Wp.topI (y := ((h 46 (x2 + 3)) - 48)) (w32_I g13) ?_
                refine wp_istore (L2 := [vr 45, vi (x2 + 3), vi ((h 46 (x2 + 1)) - 48), vi 5, vi ((h 46 (x2 + 3)) - 48)]) rfl (Nat.le_of_ble_eq_true rfl) rfl ?_
                refine wp_iload rfl rfl ?_
                refine wp_iload rfl rfl ?_
                refine wp_iclt (tn := 22) rfl rfl (fun c14 => ?_) (fun c14 => ?_)
                · replace H := H.1 c14
                  refine wp_iconst rfl ?_
                  refine wp_goto (tn := 28) rfl rfl ?_
                  refine wp_iret rfl rfl ?_
                  show Wp X _ 214 52 [vr 45, vi x1, vi x2, vi ((h 46 (x2 + 1)) - 48), vu, vu] [vi (-1)] _ _
                  refine wp_istore (L2 := [vr 45, vi x1, vi x2, vi ((h 46 (x2 + 1)) - 48), vi (-1), vu]) rfl (Nat.le_of_ble_eq_true rfl) rfl ?_
                  refine wp_iload rfl rfl ?_
                  refine wp_iconst rfl ?_
                  refine wp_icneF (tn := 68) rfl rfl (by decide) ?_
                  refine wp_aload rfl rfl ?_
                  refine wp_iload rfl rfl ?_
                  refine wp_iconst rfl ?_
                  refine wp_iadd rfl ?_
                  refine Wp.topI (y := (x2 + 3)) (w32_I (by clear H; unfold R32; omega)) ?_
                  refine wp_call (k := 216) (ρ2 := 0) (L2 := [vr 45, vi (x2 + 3)]) rfl rfl rfl (Nat.le_of_ble_eq_true rfl) (Nat.le_of_ble_eq_true rfl) (Nat.le_of_ble_eq_true rfl) (rcv_V rfl (congrArg Prod.fst (kf_45 X.1))) rfl ?_
                  refine wp_aload rfl rfl ?_
                  refine wp_iload rfl rfl ?_
                  refine wp_putI (j := 6) rfl (congrArg Prod.fst (kf_45 X.1)) rfl rfl rfl ?_
                  refine wp_iload rfl rfl ?_
                  refine wp_iret rfl rfl ?_
                  show Wp X _ 214 67 [vr 45, vi x1, vi x2, vi ((h 46 (x2 + 1)) - 48), vi (-1), vu] [vi (x2 + 3)] _ _
                  exact wp_iret rfl rfl H
                · replace H := H.2 c14
                  refine wp_iload rfl rfl ?_
                  refine wp_iload rfl rfl ?_
                  refine wp_icle (tn := 26) rfl rfl (fun c15 => ?_) (fun c15 => ?_)
                  · replace H := H.1 c15
                    refine wp_iload rfl rfl ?_
                    refine wp_iret rfl rfl ?_
                    show Wp X _ 214 52 [vr 45, vi x1, vi x2, vi ((h 46 (x2 + 1)) - 48), vu, vu] [vi ((h 46 (x2 + 3)) - 48)] _ _
                    refine wp_istore (L2 := [vr 45, vi x1, vi x2, vi ((h 46 (x2 + 1)) - 48), vi ((h 46 (x2 + 3)) - 48), vu]) rfl (Nat.le_of_ble_eq_true rfl) rfl ?_
                    refine wp_iload rfl rfl ?_
                    refine wp_iconst rfl ?_
                    refine wp_icne (tn := 68) rfl rfl (fun c16 => ?_) (fun c16 => ?_)
                    · replace H := H.1 c16
                      refine wp_aload rfl rfl ?_
                      refine wp_iload rfl rfl ?_
                      refine wp_iconst rfl ?_
                      refine wp_iadd rfl ?_
                      refine Wp.topI (y := (x2 + 4)) (w32_I (by clear H; unfold R32; omega)) ?_
                      refine wp_call (k := 218) (ρ2 := 0) (L2 := [vr 45, vi (x2 + 4)]) rfl rfl rfl (Nat.le_of_ble_eq_true rfl) (Nat.le_of_ble_eq_true rfl) (Nat.le_of_ble_eq_true rfl) (rcv_V rfl (congrArg Prod.fst (kf_45 X.1))) rfl ?_
                      refine wp_iload rfl rfl ?_
                      refine wp_ifltF (tn := 21) rfl rfl (by clear H; omega) ?_
                      refine wp_iload rfl rfl ?_
                      refine wp_aload rfl rfl ?_
                      refine wp_getI (j := 4) rfl (congrArg Prod.fst (kf_45 X.1)) rfl ?_
                      refine wp_icge (tn := 21) rfl rfl (fun c17 => ?_) (fun c17 => ?_)
                      · replace H := H.1 c17
                        refine wp_iconst rfl ?_
                        refine wp_iret rfl rfl ?_
                        show Wp X _ 214 75 [vr 45, vi x1, vi x2, vi ((h 46 (x2 + 1)) - 48), vi ((h 46 (x2 + 3)) - 48), vu] [vi (-1)] _ _
                        refine wp_iconst rfl ?_
                        refine wp_iceqF (tn := 88) rfl rfl (by decide) ?_
                        refine wp_aload rfl rfl ?_
                        refine wp_iload rfl rfl ?_
                        refine wp_iconst rfl ?_
                        refine wp_iadd rfl ?_
                        refine Wp.topI (y := (x2 + 4)) (w32_I (by clear H; unfold R32; omega)) ?_
                        refine wp_call (k := 216) (ρ2 := 0) (L2 := [vr 45, vi (x2 + 4)]) rfl rfl rfl (Nat.le_of_ble_eq_true rfl) (Nat.le_of_ble_eq_true rfl) (Nat.le_of_ble_eq_true rfl) (rcv_V rfl (congrArg Prod.fst (kf_45 X.1))) rfl ?_
                        refine wp_aload rfl rfl ?_
                        refine wp_iload rfl rfl ?_
                        refine wp_putI (j := 6) rfl (congrArg Prod.fst (kf_45 X.1)) rfl rfl rfl ?_
                        refine wp_iload rfl rfl ?_
                        refine wp_iret rfl rfl ?_
                        show Wp X _ 214 87 [vr 45, vi x1, vi x2, vi ((h 46 (x2 + 1)) - 48), vi ((h 46 (x2 + 3)) - 48), vu] [vi (x2 + 4)] _ _
                        exact wp_iret rfl rfl H
                      · replace H := H.2 c17
                        refine wp_aload rfl rfl ?_
                        refine wp_getR (r := 45) rfl (congrArg Prod.fst (kf_45 X.1)) rfl ?_
                        refine wp_iload rfl rfl ?_
                        have g18 := H.1
                        replace H := H.2
                        refine wp_iaload rfl (kf_46 X.1) g18 ?_
                        refine wp_goto (tn := 22) rfl rfl ?_
                        refine wp_iret rfl rfl ?_
                        show Wp X _ 214 75 [vr 45, vi x1, vi x2, vi ((h 46 (x2 + 1)) - 48), vi ((h 46 (x2 + 3)) - 48), vu] [vi (h 46 (x2 + 4))] _ _
                        refine wp_iconst rfl ?_
                        refine wp_iceq (tn := 88) rfl rfl (fun c19 => ?_) (fun c19 => ?_)
                        · replace H := H.1 c19
                          refine wp_aload rfl rfl ?_
                          refine wp_iload rfl rfl ?_
                          refine wp_iconst rfl ?_
                          refine wp_iadd rfl ?_
                          refine Wp.topI (y := (x2 + 5)) (w32_I (by clear H; unfold R32; omega)) ?_
                          refine wp_iconst rfl ?_
                          refine wp_iconst rfl ?_
                          refine wp_call (k := 217) (ρ2 := 1) (L2 := [vr 45, vi (x2 + 5), vi 0, vi 3, vu]) rfl rfl rfl (Nat.le_of_ble_eq_true rfl) (Nat.le_of_ble_eq_true rfl) (Nat.le_of_ble_eq_true rfl) (rcv_V rfl (congrArg Prod.fst (kf_45 X.1))) rfl ?_
                          refine wp_aload rfl rfl ?_
                          refine wp_iload rfl rfl ?_
                          refine wp_call (k := 218) (ρ2 := 0) (L2 := [vr 45, vi (x2 + 5)]) rfl rfl rfl (Nat.le_of_ble_eq_true rfl) (Nat.le_of_ble_eq_true rfl) (Nat.le_of_ble_eq_true rfl) (rcv_V rfl (congrArg Prod.fst (kf_45 X.1))) rfl ?_
                          refine wp_iload rfl rfl ?_
                          refine wp_ifltF (tn := 21) rfl rfl (by clear H; omega) ?_
                          refine wp_iload rfl rfl ?_
                          refine wp_aload rfl rfl ?_
                          refine wp_getI (j := 4) rfl (congrArg Prod.fst (kf_45 X.1)) rfl ?_
                          refine wp_icge (tn := 21) rfl rfl (fun c20 => ?_) (fun c20 => ?_)
                          · replace H := H.1 c20
                            refine wp_iconst rfl ?_
                            refine wp_iret rfl rfl ?_
                            show Wp X _ 217 5 [vr 45, vi (x2 + 5), vi 0, vi 3, vu] [vi (-1)] _ _
                            refine wp_iconst rfl ?_
                            refine wp_isub rfl ?_
                            refine Wp.topI (y := (-49)) (by decide) ?_
                            refine wp_istore (L2 := [vr 45, vi (x2 + 5), vi 0, vi 3, vi (-49)]) rfl (Nat.le_of_ble_eq_true rfl) rfl ?_
                            refine wp_iload rfl rfl ?_
                            refine wp_iload rfl rfl ?_
                            refine wp_icltT (tn := 22) rfl rfl (by decide) ?_
                            refine wp_iconst rfl ?_
                            refine wp_goto (tn := 28) rfl rfl ?_
                            refine wp_iret rfl rfl ?_
                            show Wp X _ 214 97 [vr 45, vi x1, vi x2, vi ((h 46 (x2 + 1)) - 48), vi ((h 46 (x2 + 3)) - 48), vu] [vi (-1)] _ _
                            refine wp_istore (L2 := [vr 45, vi x1, vi x2, vi ((h 46 (x2 + 1)) - 48), vi ((h 46 (x2 + 3)) - 48), vi (-1)]) rfl (Nat.le_of_ble_eq_true rfl) rfl ?_
                            refine wp_iload rfl rfl ?_
                            refine wp_iconst rfl ?_
                            refine wp_icneF (tn := 113) rfl rfl (by decide) ?_
                            refine wp_aload rfl rfl ?_
                            refine wp_iload rfl rfl ?_
                            refine wp_iconst rfl ?_
                            refine wp_iadd rfl ?_
                            refine Wp.topI (y := (x2 + 5)) (w32_I (by clear H; unfold R32; omega)) ?_
                            refine wp_call (k := 216) (ρ2 := 0) (L2 := [vr 45, vi (x2 + 5)]) rfl rfl rfl (Nat.le_of_ble_eq_true rfl) (Nat.le_of_ble_eq_true rfl) (Nat.le_of_ble_eq_true rfl) (rcv_V rfl (congrArg Prod.fst (kf_45 X.1))) rfl ?_
                            refine wp_aload rfl rfl ?_
                            refine wp_iload rfl rfl ?_
                            refine wp_putI (j := 6) rfl (congrArg Prod.fst (kf_45 X.1)) rfl rfl rfl ?_
                            refine wp_iload rfl rfl ?_
                            refine wp_iret rfl rfl ?_
                            show Wp X _ 214 112 [vr 45, vi x1, vi x2, vi ((h 46 (x2 + 1)) - 48), vi ((h 46 (x2 + 3)) - 48), vi (-1)] [vi (x2 + 5)] _ _
                            exact wp_iret rfl rfl H
                          · replace H := H.2 c20
                            refine wp_aload rfl rfl ?_
                            refine wp_getR (r := 45) rfl (congrArg Prod.fst (kf_45 X.1)) rfl ?_
                            refine wp_iload rfl rfl ?_
                            have g21 := H.1
                            replace H := H.2
                            refine wp_iaload rfl (kf_46 X.1) g21 ?_
                            refine wp_goto (tn := 22) rfl rfl ?_
                            refine wp_iret rfl rfl ?_
                            show Wp X _ 217 5 [vr 45, vi (x2 + 5), vi 0, vi 3, vu] [vi (h 46 (x2 + 5))] _ _
                            refine wp_iconst rfl ?_
                            refine wp_isub rfl ?_
                            have g22 := H.1
                            replace H := H.2
                            refine Wp.topI (y := ((h 46 (x2 + 5)) - 48)) (w32_I g22) ?_
                            refine wp_istore (L2 := [vr 45, vi (x2 + 5), vi 0, vi 3, vi ((h 46 (x2 + 5)) - 48)]) rfl (Nat.le_of_ble_eq_true rfl) rfl ?_
                            refine wp_iload rfl rfl ?_
                            refine wp_iload rfl rfl ?_
                            refine wp_iclt (tn := 22) rfl rfl (fun c23 => ?_) (fun c23 => ?_)
                            · replace H := H.1 c23
                              refine wp_iconst rfl ?_
                              refine wp_goto (tn := 28) rfl rfl ?_
                              refine wp_iret rfl rfl ?_
                              show Wp X _ 214 97 [vr 45, vi x1, vi x2, vi ((h 46 (x2 + 1)) - 48), vi ((h 46 (x2 + 3)) - 48), vu] [vi (-1)] _ _
                              refine wp_istore (L2 := [vr 45, vi x1, vi x2, vi ((h 46 (x2 + 1)) - 48), vi ((h 46 (x2 + 3)) - 48), vi (-1)]) rfl (Nat.le_of_ble_eq_true rfl) rfl ?_
                              refine wp_iload rfl rfl ?_
                              refine wp_iconst rfl ?_
                              refine wp_icneF (tn := 113) rfl rfl (by decide) ?_
                              refine wp_aload rfl rfl ?_
                              refine wp_iload rfl rfl ?_
                              refine wp_iconst rfl ?_
                              refine wp_iadd rfl ?_
                              refine Wp.topI (y := (x2 + 5)) (w32_I (by clear H; unfold R32; omega)) ?_
                              refine wp_call (k := 216) (ρ2 := 0) (L2 := [vr 45, vi (x2 + 5)]) rfl rfl rfl (Nat.le_of_ble_eq_true rfl) (Nat.le_of_ble_eq_true rfl) (Nat.le_of_ble_eq_true rfl) (rcv_V rfl (congrArg Prod.fst (kf_45 X.1))) rfl ?_
                              refine wp_aload rfl rfl ?_
                              refine wp_iload rfl rfl ?_
                              refine wp_putI (j := 6) rfl (congrArg Prod.fst (kf_45 X.1)) rfl rfl rfl ?_
                              refine wp_iload rfl rfl ?_
                              refine wp_iret rfl rfl ?_
                              show Wp X _ 214 112 [vr 45, vi x1, vi x2, vi ((h 46 (x2 + 1)) - 48), vi ((h 46 (x2 + 3)) - 48), vi (-1)] [vi (x2 + 5)] _ _
                              exact wp_iret rfl rfl H
                            · replace H := H.2 c23
                              refine wp_iload rfl rfl ?_
                              refine wp_iload rfl rfl ?_
                              refine wp_icle (tn := 26) rfl rfl (fun c24 => ?_) (fun c24 => ?_)
                              · replace H := H.1 c24
                                refine wp_iload rfl rfl ?_
                                refine wp_iret rfl rfl ?_
                                show Wp X _ 214 97 [vr 45, vi x1, vi x2, vi ((h 46 (x2 + 1)) - 48), vi ((h 46 (x2 + 3)) - 48), vu] [vi ((h 46 (x2 + 5)) - 48)] _ _
                                refine wp_istore (L2 := [vr 45, vi x1, vi x2, vi ((h 46 (x2 + 1)) - 48), vi ((h 46 (x2 + 3)) - 48), vi ((h 46 (x2 + 5)) - 48)]) rfl (Nat.le_of_ble_eq_true rfl) rfl ?_
                                refine wp_iload rfl rfl ?_
                                refine wp_iconst rfl ?_
                                refine wp_icneT (tn := 113) rfl rfl (by clear H; omega) ?_
                                refine wp_aload rfl rfl ?_
                                refine wp_getR (r := 48) rfl (congrArg Prod.fst (kf_45 X.1)) rfl ?_
                                refine wp_iload rfl rfl ?_
                                refine wp_iload rfl rfl ?_
                                refine wp_iload rfl rfl ?_
                                refine wp_iload rfl rfl ?_
                                exact wp_call (k := 245) (ρ2 := 1) (L2 := [vr 49, vi x1, vi ((h 46 (x2 + 1)) - 48), vi ((h 46 (x2 + 3)) - 48), vi ((h 46 (x2 + 5)) - 48), vu, vu]) rfl rfl rfl (Nat.le_of_ble_eq_true rfl) (Nat.le_of_ble_eq_true rfl) (Nat.le_of_ble_eq_true rfl) (rcv_V rfl (congrArg Prod.fst (kf_49 X.1))) rfl H
                              · replace H := H.2 c24
                                refine wp_iconst rfl ?_
                                refine wp_goto (tn := 28) rfl rfl ?_
                                refine wp_iret rfl rfl ?_
                                show Wp X _ 214 97 [vr 45, vi x1, vi x2, vi ((h 46 (x2 + 1)) - 48), vi ((h 46 (x2 + 3)) - 48), vu] [vi (-1)] _ _
                                refine wp_istore (L2 := [vr 45, vi x1, vi x2, vi ((h 46 (x2 + 1)) - 48), vi ((h 46 (x2 + 3)) - 48), vi (-1)]) rfl (Nat.le_of_ble_eq_true rfl) rfl ?_
                                refine wp_iload rfl rfl ?_
                                refine wp_iconst rfl ?_
                                refine wp_icneF (tn := 113) rfl rfl (by decide) ?_
                                refine wp_aload rfl rfl ?_
                                refine wp_iload rfl rfl ?_
                                refine wp_iconst rfl ?_
                                refine wp_iadd rfl ?_
                                refine Wp.topI (y := (x2 + 5)) (w32_I (by clear H; unfold R32; omega)) ?_
                                refine wp_call (k := 216) (ρ2 := 0) (L2 := [vr 45, vi (x2 + 5)]) rfl rfl rfl (Nat.le_of_ble_eq_true rfl) (Nat.le_of_ble_eq_true rfl) (Nat.le_of_ble_eq_true rfl) (rcv_V rfl (congrArg Prod.fst (kf_45 X.1))) rfl ?_
                                refine wp_aload rfl rfl ?_
                                refine wp_iload rfl rfl ?_
                                refine wp_putI (j := 6) rfl (congrArg Prod.fst (kf_45 X.1)) rfl rfl rfl ?_
                                refine wp_iload rfl rfl ?_
                                refine wp_iret rfl rfl ?_
                                show Wp X _ 214 112 [vr 45, vi x1, vi x2, vi ((h 46 (x2 + 1)) - 48), vi ((h 46 (x2 + 3)) - 48), vi (-1)] [vi (x2 + 5)] _ _
                                exact wp_iret rfl rfl H
                        · replace H := H.2 c19
                          refine wp_aload rfl rfl ?_
                          refine wp_iload rfl rfl ?_
                          refine wp_iconst rfl ?_
                          refine wp_iadd rfl ?_
                          refine Wp.topI (y := (x2 + 4)) (w32_I (by clear H; unfold R32; omega)) ?_
                          refine wp_call (k := 216) (ρ2 := 0) (L2 := [vr 45, vi (x2 + 4)]) rfl rfl rfl (Nat.le_of_ble_eq_true rfl) (Nat.le_of_ble_eq_true rfl) (Nat.le_of_ble_eq_true rfl) (rcv_V rfl (congrArg Prod.fst (kf_45 X.1))) rfl ?_
                          refine wp_aload rfl rfl ?_
                          refine wp_iload rfl rfl ?_
                          refine wp_putI (j := 6) rfl (congrArg Prod.fst (kf_45 X.1)) rfl rfl rfl ?_
                          refine wp_iload rfl rfl ?_
                          refine wp_iret rfl rfl ?_
                          show Wp X _ 214 87 [vr 45, vi x1, vi x2, vi ((h 46 (x2 + 1)) - 48), vi ((h 46 (x2 + 3)) - 48), vu] [vi (x2 + 4)] _ _
                          exact wp_iret rfl rfl H
                    · replace H := H.2 c16
                      refine wp_aload rfl rfl ?_
                      refine wp_iload rfl rfl ?_
                      refine wp_iconst rfl ?_
                      refine wp_iadd rfl ?_
                      refine Wp.topI (y := (x2 + 3)) (w32_I (by clear H; unfold R32; omega)) ?_
                      refine wp_call (k := 216) (ρ2 := 0) (L2 := [vr 45, vi (x2 + 3)]) rfl rfl rfl (Nat.le_of_ble_eq_true rfl) (Nat.le_of_ble_eq_true rfl) (Nat.le_of_ble_eq_true rfl) (rcv_V rfl (congrArg Prod.fst (kf_45 X.1))) rfl ?_
                      refine wp_aload rfl rfl ?_
                      refine wp_iload rfl rfl ?_
                      refine wp_putI (j := 6) rfl (congrArg Prod.fst (kf_45 X.1)) rfl rfl rfl ?_
                      refine wp_iload rfl rfl ?_
                      refine wp_iret rfl rfl ?_
                      show Wp X _ 214 67 [vr 45, vi x1, vi x2, vi ((h 46 (x2 + 1)) - 48), vi ((h 46 (x2 + 3)) - 48), vu] [vi (x2 + 3)] _ _
                      exact wp_iret rfl rfl H
                  · replace H := H.2 c15
                    refine wp_iconst rfl ?_
                    refine wp_goto (tn := 28) rfl rfl ?_
                    refine wp_iret rfl rfl ?_
                    show Wp X _ 214 52 [vr 45, vi x1, vi x2, vi ((h 46 (x2 + 1)) - 48), vu, vu] [vi (-1)] _ _
                    refine wp_istore (L2 := [vr 45, vi x1, vi x2, vi ((h 46 (x2 + 1)) - 48), vi (-1), vu]) rfl (Nat.le_of_ble_eq_true rfl) rfl ?_
                    refine wp_iload rfl rfl ?_
                    refine wp_iconst rfl ?_
                    refine wp_icneF (tn := 68) rfl rfl (by decide) ?_
                    refine wp_aload rfl rfl ?_
                    refine wp_iload rfl rfl ?_
                    refine wp_iconst rfl ?_
                    refine wp_iadd rfl ?_
                    refine Wp.topI (y := (x2 + 3)) (w32_I (by clear H; unfold R32; omega)) ?_
                    refine wp_call (k := 216) (ρ2 := 0) (L2 := [vr 45, vi (x2 + 3)]) rfl rfl rfl (Nat.le_of_ble_eq_true rfl) (Nat.le_of_ble_eq_true rfl) (Nat.le_of_ble_eq_true rfl) (rcv_V rfl (congrArg Prod.fst (kf_45 X.1))) rfl ?_
                    refine wp_aload rfl rfl ?_
                    refine wp_iload rfl rfl ?_
                    refine wp_putI (j := 6) rfl (congrArg Prod.fst (kf_45 X.1)) rfl rfl rfl ?_
                    refine wp_iload rfl rfl ?_
                    refine wp_iret rfl rfl ?_
                    show Wp X _ 214 67 [vr 45, vi x1, vi x2, vi ((h 46 (x2 + 1)) - 48), vi (-1), vu] [vi (x2 + 3)] _ _
                    exact wp_iret rfl rfl H
            · replace H := H.2 c10
              refine wp_aload rfl rfl ?_
              refine wp_iload rfl rfl ?_
              refine wp_iconst rfl ?_
              refine wp_iadd rfl ?_
              refine Wp.topI (y := (x2 + 2)) (w32_I (by clear H; unfold R32; omega)) ?_
              refine wp_call (k := 216) (ρ2 := 0) (L2 := [vr 45, vi (x2 + 2)]) rfl rfl rfl (Nat.le_of_ble_eq_true rfl) (Nat.le_of_ble_eq_true rfl) (Nat.le_of_ble_eq_true rfl) (rcv_V rfl (congrArg Prod.fst (kf_45 X.1))) rfl ?_
              refine wp_aload rfl rfl ?_
              refine wp_iload rfl rfl ?_
              refine wp_putI (j := 6) rfl (congrArg Prod.fst (kf_45 X.1)) rfl rfl rfl ?_
              refine wp_iload rfl rfl ?_
              refine wp_iret rfl rfl ?_
              show Wp X _ 214 42 [vr 45, vi x1, vi x2, vi ((h 46 (x2 + 1)) - 48), vu, vu] [vi (x2 + 2)] _ _
              exact wp_iret rfl rfl H
        · replace H := H.2 c7
          refine wp_iconst rfl ?_
          refine wp_goto (tn := 28) rfl rfl ?_
          refine wp_iret rfl rfl ?_
          show Wp X _ 214 9 [vr 45, vi x1, vi x2, vu, vu, vu] [vi (-1)] _ _
          refine wp_istore (L2 := [vr 45, vi x1, vi x2, vi (-1), vu, vu]) rfl (Nat.le_of_ble_eq_true rfl) rfl ?_
          refine wp_iload rfl rfl ?_
          refine wp_iconst rfl ?_
          refine wp_icneF (tn := 23) rfl rfl (by decide) ?_
          refine wp_aload rfl rfl ?_
          refine wp_iload rfl rfl ?_
          refine wp_iconst rfl ?_
          refine wp_iadd rfl ?_
          refine Wp.topI (y := (x2 + 1)) (w32_I (by clear H; unfold R32; omega)) ?_
          refine wp_call (k := 216) (ρ2 := 0) (L2 := [vr 45, vi (x2 + 1)]) rfl rfl rfl (Nat.le_of_ble_eq_true rfl) (Nat.le_of_ble_eq_true rfl) (Nat.le_of_ble_eq_true rfl) (rcv_V rfl (congrArg Prod.fst (kf_45 X.1))) rfl ?_
          refine wp_aload rfl rfl ?_
          refine wp_iload rfl rfl ?_
          refine wp_putI (j := 6) rfl (congrArg Prod.fst (kf_45 X.1)) rfl rfl rfl ?_
          refine wp_iload rfl rfl ?_
          refine wp_iret rfl rfl ?_
          show Wp X _ 214 22 [vr 45, vi x1, vi x2, vi (-1), vu, vu] [vi (x2 + 1)] _ _
          exact wp_iret rfl rfl H
/-- RuleText.readZoneRule(II)I, from 126 -/
theorem S214_45_126 {X : Nat × (Int → Int)} {h : HP} {Q : bQ} (x1 : Int) (x2 : Int) (x3 : Int) (zx4 : aV) (zx5 : aV) (H : ((x1 < 0 → ((R32 (x2 + 6)) ∧ Q (some (vi (x2 + 6))) h)) ∧ (0 ≤ x1 → ((8 ≤ x1 → ((R32 (x2 + 6)) ∧ Q (some (vi (x2 + 6))) h)) ∧ (x1 < 8 → ((R32 (x2 + 6)) ∧ Q (some (vi (x2 + 6))) (upd2 (upd2 h 47 x1 122) 48 x1 x3))))))) : Wp X 2 214 126 [vr 45, vi x1, vi x2, vi x3, zx4, zx5] [] h Q := by
  refine wp_aload rfl rfl ?_
  refine wp_iload rfl rfl ?_
  refine wp_iconst rfl ?_
  refine wp_iload rfl rfl ?_
  refine wp_call (k := 215) (ρ2 := 0) (L2 := [vr 45, vi x1, vi 122, vi x3]) rfl rfl rfl (Nat.le_of_ble_eq_true rfl) (Nat.le_of_ble_eq_true rfl) (Nat.le_of_ble_eq_true rfl) (rcv_V rfl (congrArg Prod.fst (kf_45 X.1))) rfl ?_
  refine wp_iload rfl rfl ?_
  refine wp_iflt (tn := 24) rfl rfl (fun c1 => ?_) (fun c1 => ?_)
  · replace H := H.1 c1
    refine wp_vret rfl rfl ?_
    show Wp X _ 214 134 [vr 45, vi x1, vi x2, vi x3, zx4, zx5] [] _ _
    refine wp_iload rfl rfl ?_
    refine wp_iconst rfl ?_
    refine wp_iadd rfl ?_
    have g2 := H.1
    replace H := H.2
    refine Wp.topI (y := (x2 + 6)) (w32_I g2) ?_
    exact wp_iret rfl rfl H
  · replace H := H.2 c1
    refine wp_iload rfl rfl ?_
    refine wp_iconst rfl ?_
    refine wp_icge (tn := 24) rfl rfl (fun c3 => ?_) (fun c3 => ?_)
    · replace H := H.1 c3
      refine wp_vret rfl rfl ?_
      show Wp X _ 214 134 [vr 45, vi x1, vi x2, vi x3, zx4, zx5] [] _ _
      refine wp_iload rfl rfl ?_
      refine wp_iconst rfl ?_
      refine wp_iadd rfl ?_
      have g4 := H.1
      replace H := H.2
      refine Wp.topI (y := (x2 + 6)) (w32_I g4) ?_
      exact wp_iret rfl rfl H
    · replace H := H.2 c3
      refine wp_aload rfl rfl ?_
      refine wp_getR (r := 46) rfl (congrArg Prod.fst (kf_45 X.1)) rfl ?_
      refine wp_iload rfl rfl ?_
      refine wp_iload rfl rfl ?_
      refine wp_iastore rfl (kf_47 X.1) ⟨c1, c3⟩ ?_
      refine wp_aload rfl rfl ?_
      refine wp_getR (r := 47) rfl (congrArg Prod.fst (kf_45 X.1)) rfl ?_
      refine wp_iload rfl rfl ?_
      refine wp_iload rfl rfl ?_
      refine wp_iastore rfl (kf_48 X.1) ⟨c1, c3⟩ ?_
      refine wp_vret rfl rfl ?_
      show Wp X _ 214 134 [vr 45, vi x1, vi x2, vi x3, zx4, zx5] [] _ _
      refine wp_iload rfl rfl ?_
      refine wp_iconst rfl ?_
      refine wp_iadd rfl ?_
      have g5 := H.1
      replace H := H.2
      refine Wp.topI (y := (x2 + 6)) (w32_I g5) ?_
      exact wp_iret rfl rfl H
/-- RuleText.readZoneRule(II)I, from 0 -/
theorem S214_53_0 {X : Nat × (Int → Int)} {h : HP} {Q : bQ} (x1 : Int) (x2 : Int) (H : ((R32 (x2 + 1)) ∧ (((x2 + 1) < 0 → Q (some (vi (x2 + 1))) (upd2 h 53 6 (x2 + 1))) ∧ (0 ≤ (x2 + 1) → (((h 53 4) ≤ (x2 + 1) → Q (some (vi (x2 + 1))) (upd2 h 53 6 (x2 + 1))) ∧ ((x2 + 1) < (h 53 4) → ((0 ≤ (x2 + 1) ∧ (x2 + 1) < 50) ∧ ((R32 ((h 54 (x2 + 1)) - 48)) ∧ ((((h 54 (x2 + 1)) - 48) < 1 → Q (some (vi (x2 + 1))) (upd2 h 53 6 (x2 + 1))) ∧ (1 ≤ ((h 54 (x2 + 1)) - 48) → ((((h 54 (x2 + 1)) - 48) ≤ 5 → (((h 53 4) ≤ (x2 + 2) → Q (some (vi (x2 + 2))) (upd2 h 53 6 (x2 + 2))) ∧ ((x2 + 2) < (h 53 4) → ((0 ≤ (x2 + 2) ∧ (x2 + 2) < 50) ∧ (((h 54 (x2 + 2)) = 47 → (((h 53 4) ≤ (x2 + 3) → Q (some (vi (x2 + 3))) (upd2 h 53 6 (x2 + 3))) ∧ ((x2 + 3) < (h 53 4) → ((0 ≤ (x2 + 3) ∧ (x2 + 3) < 50) ∧ ((R32 ((h 54 (x2 + 3)) - 48)) ∧ ((((h 54 (x2 + 3)) - 48) < ((h 54 (x2 + 1)) - 48) → Q (some (vi (x2 + 3))) (upd2 h 53 6 (x2 + 3))) ∧ (((h 54 (x2 + 1)) - 48) ≤ ((h 54 (x2 + 3)) - 48) → ((((h 54 (x2 + 3)) - 48) ≤ 5 → ((((h 54 (x2 + 3)) - 48) ≠ (-1) → (((h 53 4) ≤ (x2 + 4) → Q (some (vi (x2 + 4))) (upd2 h 53 6 (x2 + 4))) ∧ ((x2 + 4) < (h 53 4) → ((0 ≤ (x2 + 4) ∧ (x2 + 4) < 50) ∧ (((h 54 (x2 + 4)) = 62 → (((h 53 4) ≤ (x2 + 5) → Q (some (vi (x2 + 5))) (upd2 h 53 6 (x2 + 5))) ∧ ((x2 + 5) < (h 53 4) → ((0 ≤ (x2 + 5) ∧ (x2 + 5) < 50) ∧ ((R32 ((h 54 (x2 + 5)) - 48)) ∧ ((((h 54 (x2 + 5)) - 48) < 0 → Q (some (vi (x2 + 5))) (upd2 h 53 6 (x2 + 5))) ∧ (0 ≤ ((h 54 (x2 + 5)) - 48) → ((((h 54 (x2 + 5)) - 48) ≤ 3 → Wp X 1 245 0 [vr 57, vi x1, vi ((h 54 (x2 + 1)) - 48), vi ((h 54 (x2 + 3)) - 48), vi ((h 54 (x2 + 5)) - 48), vu, vu] [] h (fun v h' => Wp X 2 214 126 [vr 53, vi x1, vi x2, vi ((h 54 (x2 + 1)) - 48), vi ((h 54 (x2 + 3)) - 48), vi ((h 54 (x2 + 5)) - 48)] (psh v []) h' Q)) ∧ (3 < ((h 54 (x2 + 5)) - 48) → Q (some (vi (x2 + 5))) (upd2 h 53 6 (x2 + 5))))))))))) ∧ ((h 54 (x2 + 4)) ≠ 62 → Q (some (vi (x2 + 4))) (upd2 h 53 6 (x2 + 4)))))))) ∧ (((h 54 (x2 + 3)) - 48) = (-1) → Q (some (vi (x2 + 3))) (upd2 h 53 6 (x2 + 3))))) ∧ (5 < ((h 54 (x2 + 3)) - 48) → Q (some (vi (x2 + 3))) (upd2 h 53 6 (x2 + 3))))))))))) ∧ ((h 54 (x2 + 2)) ≠ 47 → Q (some (vi (x2 + 2))) (upd2 h 53 6 (x2 + 2)))))))) ∧ (5 < ((h 54 (x2 + 1)) - 48) → Q (some (vi (x2 + 1))) (upd2 h 53 6 (x2 + 1)))))))))))))) : Wp X 2 214 0 [vr 53, vi x1, vi x2, vu, vu, vu] [] h Q := by
  refine wp_aload rfl rfl ?_
  refine wp_iload rfl rfl ?_
  refine wp_iconst rfl ?_
  refine wp_iadd rfl ?_
  have g1 := H.1
  replace H := H.2
  refine Wp.topI (y := (x2 + 1)) (w32_I g1) ?_
  refine wp_iconst rfl ?_
  refine wp_iconst rfl ?_
  refine wp_call (k := 217) (ρ2 := 1) (L2 := [vr 53, vi (x2 + 1), vi 1, vi 5, vu]) rfl rfl rfl (Nat.le_of_ble_eq_true rfl) (Nat.le_of_ble_eq_true rfl) (Nat.le_of_ble_eq_true rfl) (rcv_V rfl (congrArg Prod.fst (kf_53 X.1))) rfl ?_
  refine wp_aload rfl rfl ?_
  refine wp_iload rfl rfl ?_
  refine wp_call (k := 218) (ρ2 := 0) (L2 := [vr 53, vi (x2 + 1)]) rfl rfl rfl (Nat.le_of_ble_eq_true rfl) (Nat.le_of_ble_eq_true rfl) (Nat.le_of_ble_eq_true rfl) (rcv_V rfl (congrArg Prod.fst (kf_53 X.1))) rfl ?_
  refine wp_iload rfl rfl ?_
  refine wp_iflt (tn := 21) rfl rfl (fun c2 => ?_) (fun c2 => ?_)
  · replace H := H.1 c2
    refine wp_iconst rfl ?_
    refine wp_iret rfl rfl ?_
    show Wp X _ 217 5 [vr 53, vi (x2 + 1), vi 1, vi 5, vu] [vi (-1)] _ _
    refine wp_iconst rfl ?_
    refine wp_isub rfl ?_
    refine Wp.topI (y := (-49)) (by decide) ?_
    refine wp_istore (L2 := [vr 53, vi (x2 + 1), vi 1, vi 5, vi (-49)]) rfl (Nat.le_of_ble_eq_true rfl) rfl ?_
    refine wp_iload rfl rfl ?_
    refine wp_iload rfl rfl ?_
    refine wp_icltT (tn := 22) rfl rfl (by decide) ?_
    refine wp_iconst rfl ?_
    refine wp_goto (tn := 28) rfl rfl ?_
    refine wp_iret rfl rfl ?_
    show Wp X _ 214 9 [vr 53, vi x1, vi x2, vu, vu, vu] [vi (-1)] _ _
    refine wp_istore (L2 := [vr 53, vi x1, vi x2, vi (-1), vu, vu]) rfl (Nat.le_of_ble_eq_true rfl) rfl ?_
    refine wp_iload rfl rfl ?_
    refine wp_iconst rfl ?_
    refine wp_icneF (tn := 23) rfl rfl (by decide) ?_
    refine wp_aload rfl rfl ?_
    refine wp_iload rfl rfl ?_
    refine wp_iconst rfl ?_
    refine wp_iadd rfl ?_
    refine Wp.topI (y := (x2 + 1)) (w32_I g1) ?_
    refine wp_call (k := 216) (ρ2 := 0) (L2 := [vr 53, vi (x2 + 1)]) rfl rfl rfl (Nat.le_of_ble_eq_true rfl) (Nat.le_of_ble_eq_true rfl) (Nat.le_of_ble_eq_true rfl) (rcv_V rfl (congrArg Prod.fst (kf_53 X.1))) rfl ?_
    refine wp_aload rfl rfl ?_
    refine wp_iload rfl rfl ?_
    refine wp_putI (j := 6) rfl (congrArg Prod.fst (kf_53 X.1)) rfl rfl rfl ?_
    refine wp_iload rfl rfl ?_
    refine wp_iret rfl rfl ?_
    show Wp X _ 214 22 [vr 53, vi x1, vi x2, vi (-1), vu, vu] [vi (x2 + 1)] _ _
    exact wp_iret rfl rfl H
  · replace H := H.2 c2
    refine wp_iload rfl rfl ?_
    refine wp_aload rfl rfl ?_
    refine wp_getI (j := 4) rfl (congrArg Prod.fst (kf_53 X.1)) rfl ?_
    refine wp_icge (tn := 21) rfl rfl (fun c3 => ?_) (fun c3 => ?_)
    · replace H := H.1 c3
      refine wp_iconst rfl ?_
      refine wp_iret rfl rfl ?_
      show Wp X _ 217 5 [vr 53, vi (x2 + 1), vi 1, vi 5, vu] [vi (-1)] _ _
      refine wp_iconst rfl ?_
      refine wp_isub rfl ?_
      refine Wp.topI (y := (-49)) (by decide) ?_
      refine wp_istore (L2 := [vr 53, vi (x2 + 1), vi 1, vi 5, vi (-49)]) rfl (Nat.le_of_ble_eq_true rfl) rfl ?_
      refine wp_iload rfl rfl ?_
      refine wp_iload rfl rfl ?_
      refine wp_icltT (tn := 22) rfl rfl (by decide) ?_
      refine wp_iconst rfl ?_
      refine wp_goto (tn := 28) rfl rfl ?_
      refine wp_iret rfl rfl ?_
      show Wp X _ 214 9 [vr 53, vi x1, vi x2, vu, vu, vu] [vi (-1)] _ _
      refine wp_istore (L2 := [vr 53, vi x1, vi x2, vi (-1), vu, vu]) rfl (Nat.le_of_ble_eq_true rfl) rfl ?_
      refine wp_iload rfl rfl ?_
      refine wp_iconst rfl ?_
      refine wp_icneF (tn := 23) rfl rfl (by decide) ?_
      refine wp_aload rfl rfl ?_
      refine wp_iload rfl rfl ?_
      refine wp_iconst rfl ?_
      refine wp_iadd rfl ?_
      refine Wp.topI (y := (x2 + 1)) (w32_I g1) ?_
      refine wp_call (k := 216) (ρ2 := 0) (L2 := [vr 53, vi (x2 + 1)]) rfl rfl rfl (Nat.le_of_ble_eq_true rfl) (Nat.le_of_ble_eq_true rfl) (Nat.le_of_ble_eq_true rfl) (rcv_V rfl (congrArg Prod.fst (kf_53 X.1))) rfl ?_
      refine wp_aload rfl rfl ?_
      refine wp_iload rfl rfl ?_
      refine wp_putI (j := 6) rfl (congrArg Prod.fst (kf_53 X.1)) rfl rfl rfl ?_
      refine wp_iload rfl rfl ?_
      refine wp_iret rfl rfl ?_
      show Wp X _ 214 22 [vr 53, vi x1, vi x2, vi (-1), vu, vu] [vi (x2 + 1)] _ _
      exact wp_iret rfl rfl H
    · replace H := H.2 c3
      refine wp_aload rfl rfl ?_
      refine wp_getR (r := 53) rfl (congrArg Prod.fst (kf_53 X.1)) rfl ?_
      refine wp_iload rfl rfl ?_
      have g4 := H.1
      replace H := H.2
      refine wp_iaload rfl (kf_54 X.1) g4 ?_
      refine wp_goto (tn := 22) rfl rfl ?_
      refine wp_iret rfl rfl ?_
      show Wp X _ 217 5 [vr 53, vi (x2 + 1), vi 1, vi 5, vu] [vi (h 54 (x2 + 1))] _ _
      refine wp_iconst rfl ?_
      refine wp_isub rfl ?_
      have g5 := H.1
      replace H := H.2
      refine Wp.topI (y := ((h 54 (x2 + 1)) - 48)) (w32_I g5) ?_
      refine wp_istore (L2 := [vr 53, vi (x2 + 1), vi 1, vi 5, vi ((h 54 (x2 + 1)) - 48)]) rfl (Nat.le_of_ble_eq_true rfl) rfl ?_
      refine wp_iload rfl rfl ?_
      refine wp_iload rfl rfl ?_
      refine wp_iclt (tn := 22) rfl rfl (fun c6 => ?_) (fun c6 => ?_)
      · replace H := H.1 c6
        refine wp_iconst rfl ?_
        refine wp_goto (tn := 28) rfl rfl ?_
        refine wp_iret rfl rfl ?_
        show Wp X _ 214 9 [vr 53, vi x1, vi x2, vu, vu, vu] [vi (-1)] _ _
        refine wp_istore (L2 := [vr 53, vi x1, vi x2, vi (-1), vu, vu]) rfl (Nat.le_of_ble_eq_true rfl) rfl ?_
        refine wp_iload rfl rfl ?_
        refine wp_iconst rfl ?_
        refine wp_icneF (tn := 23) rfl rfl (by decide) ?_
        refine wp_aload rfl rfl ?_
        refine wp_iload rfl rfl ?_
        refine wp_iconst rfl ?_
        refine wp_iadd rfl ?_
        refine Wp.topI (y := (x2 + 1)) (w32_I (by clear H; unfold R32; omega)) ?_
        refine wp_call (k := 216) (ρ2 := 0) (L2 := [vr 53, vi (x2 + 1)]) rfl rfl rfl (Nat.le_of_ble_eq_true rfl) (Nat.le_of_ble_eq_true rfl) (Nat.le_of_ble_eq_true rfl) (rcv_V rfl (congrArg Prod.fst (kf_53 X.1))) rfl ?_
        refine wp_aload rfl rfl ?_
        refine wp_iload rfl rfl ?_
        refine wp_putI (j := 6) rfl (congrArg Prod.fst (kf_53 X.1)) rfl rfl rfl ?_
        refine wp_iload rfl rfl ?_
        refine wp_iret rfl rfl ?_
        show Wp X _ 214 22 [vr 53, vi x1, vi x2, vi (-1), vu, vu] [vi (x2 + 1)] _ _
        exact wp_iret rfl rfl H
      · replace H := H.2 c6
        refine wp_iload rfl rfl ?_
        refine wp_iload rfl rfl ?_
        refine wp_icle (tn := 26) rfl rfl (fun c7 => ?_) (fun c7 => ?_)
        · replace H := H.1 c7
          refine wp_iload rfl rfl ?_
          refine wp_iret rfl rfl ?_
          show Wp X _ 214 9 [vr 53, vi x1, vi x2, vu, vu, vu] [vi ((h 54 (x2 + 1)) - 48)] _ _
          refine wp_istore (L2 := [vr 53, vi x1, vi x2, vi ((h 54 (x2 + 1)) - 48), vu, vu]) rfl (Nat.le_of_ble_eq_true rfl) rfl ?_
          refine wp_iload rfl rfl ?_
          refine wp_iconst rfl ?_
          refine wp_icneT (tn := 23) rfl rfl (by clear H; omega) ?_
          refine wp_aload rfl rfl ?_
          refine wp_iload rfl rfl ?_
          refine wp_iconst rfl ?_
          refine wp_iadd rfl ?_
          refine Wp.topI (y := (x2 + 2)) (w32_I (by clear H; unfold R32; omega)) ?_
          refine wp_call (k := 218) (ρ2 := 0) (L2 := [vr 53, vi (x2 + 2)]) rfl rfl rfl (Nat.le_of_ble_eq_true rfl) (Nat.le_of_ble_eq_true rfl) (Nat.le_of_ble_eq_true rfl) (rcv_V rfl (congrArg Prod.fst (kf_53 X.1))) rfl ?_
          refine wp_iload rfl rfl ?_
          refine wp_ifltF (tn := 21) rfl rfl (by clear H; omega) ?_
          refine wp_iload rfl rfl ?_
          refine wp_aload rfl rfl ?_
          refine wp_getI (j := 4) rfl (congrArg Prod.fst (kf_53 X.1)) rfl ?_
          refine wp_icge (tn := 21) rfl rfl (fun c8 => ?_) (fun c8 => ?_)
          · replace H := H.1 c8
            refine wp_iconst rfl ?_
            refine wp_iret rfl rfl ?_
            show Wp X _ 214 30 [vr 53, vi x1, vi x2, vi ((h 54 (x2 + 1)) - 48), vu, vu] [vi (-1)] _ _
            refine wp_iconst rfl ?_
            refine wp_iceqF (tn := 43) rfl rfl (by decide) ?_
            refine wp_aload rfl rfl ?_
            refine wp_iload rfl rfl ?_
            refine wp_iconst rfl ?_
            refine wp_iadd rfl ?_
            refine Wp.topI (y := (x2 + 2)) (w32_I (by clear H; unfold R32; omega)) ?_
            refine wp_call (k := 216) (ρ2 := 0) (L2 := [vr 53, vi (x2 + 2)]) rfl rfl rfl (Nat.le_of_ble_eq_true rfl) (Nat.le_of_ble_eq_true rfl) (Nat.le_of_ble_eq_true rfl) (rcv_V rfl (congrArg Prod.fst (kf_53 X.1))) rfl ?_
            refine wp_aload rfl rfl ?_
            refine wp_iload rfl rfl ?_
            refine wp_putI (j := 6) rfl (congrArg Prod.fst (kf_53 X.1)) rfl rfl rfl ?_
            refine wp_iload rfl rfl ?_
            refine wp_iret rfl rfl ?_
            show Wp X _ 214 42 [vr 53, vi x1, vi x2, vi ((h 54 (x2 + 1)) - 48), vu, vu] [vi (x2 + 2)] _ _
            exact wp_iret rfl rfl H
          · replace H := H.2 c8
            refine wp_aload rfl rfl ?_
            refine wp_getR (r := 53) rfl (congrArg Prod.fst (kf_53 X.1)) rfl ?_
            refine wp_iload rfl rfl ?_
            have g9 := H.1
            replace H := H.2
            refine wp_iaload rfl (kf_54 X.1) g9 ?_
            refine wp_goto (tn := 22) rfl rfl ?_
            refine wp_iret rfl rfl ?_
            show Wp X _ 214 30 [vr 53, vi x1, vi x2, vi ((h 54 (x2 + 1)) - 48), vu, vu] [vi (h 54 (x2 + 2))] _ _
            refine wp_iconst rfl ?_
            refine wp_iceq (tn := 43) rfl rfl (fun c10 => ?_) (fun c10 => ?_)
            · replace H := H.1 c10
              refine wp_aload rfl rfl ?_
              refine wp_iload rfl rfl ?_
              refine wp_iconst rfl ?_
              refine wp_iadd rfl ?_
              refine Wp.topI (y := (x2 + 3)) (w32_I (by clear H; unfold R32; omega)) ?_
              refine wp_iload rfl rfl ?_
              refine wp_iconst rfl ?_
              refine wp_call (k := 217) (ρ2 := 1) (L2 := [vr 53, vi (x2 + 3), vi ((h 54 (x2 + 1)) - 48), vi 5, vu]) rfl rfl rfl (Nat.le_of_ble_eq_true rfl) (Nat.le_of_ble_eq_true rfl) (Nat.le_of_ble_eq_true rfl) (rcv_V rfl (congrArg Prod.fst (kf_53 X.1))) rfl ?_
              refine wp_aload rfl rfl ?_
              refine wp_iload rfl rfl ?_
              refine wp_call (k := 218) (ρ2 := 0) (L2 := [vr 53, vi (x2 + 3)]) rfl rfl rfl (Nat.le_of_ble_eq_true rfl) (Nat.le_of_ble_eq_true rfl) (Nat.le_of_ble_eq_true rfl) (rcv_V rfl (congrArg Prod.fst (kf_53 X.1))) rfl ?_
              refine wp_iload rfl rfl ?_
              refine wp_ifltF (tn := 21) rfl rfl (by clear H; omega) ?_
              refine wp_iload rfl rfl ?_
              refine wp_aload rfl rfl ?_
              refine wp_getI (j := 4) rfl (congrArg Prod.fst (kf_53 X.1)) rfl ?_
              refine wp_icge (tn := 21) rfl rfl (fun c11 => ?_) (fun c11 => ?_)
              · replace H := H.1 c11
                refine wp_iconst rfl ?_
                refine wp_iret rfl rfl ?_
                show Wp X _ 217 5 [vr 53, vi (x2 + 3), vi ((h 54 (x2 + 1)) - 48), vi 5, vu] [vi (-1)] _ _
                refine wp_iconst rfl ?_
                refine wp_isub rfl ?_
                refine Wp.topI (y := (-49)) (by decide) ?_
                refine wp_istore (L2 := [vr 53, vi (x2 + 3), vi ((h 54 (x2 + 1)) - 48), vi 5, vi (-49)]) rfl (Nat.le_of_ble_eq_true rfl) rfl ?_
                refine wp_iload rfl rfl ?_
                refine wp_iload rfl rfl ?_
                refine wp_icltT (tn := 22) rfl rfl (by clear H; omega) ?_
                refine wp_iconst rfl ?_
                refine wp_goto (tn := 28) rfl rfl ?_
                refine wp_iret rfl rfl ?_
                show Wp X _ 214 52 [vr 53, vi x1, vi x2, vi ((h 54 (x2 + 1)) - 48), vu, vu] [vi (-1)] _ _
                refine wp_istore (L2 := [vr 53, vi x1, vi x2, vi ((h 54 (x2 + 1)) - 48), vi (-1), vu]) rfl (Nat.le_of_ble_eq_true rfl) rfl ?_
                refine wp_iload rfl rfl ?_
                refine wp_iconst rfl ?_
                refine wp_icneF (tn := 68) rfl rfl (by decide) ?_
                refine wp_aload rfl rfl ?_
                refine wp_iload rfl rfl ?_
                refine wp_iconst rfl ?_
                refine wp_iadd rfl ?_
                refine Wp.topI (y := (x2 + 3)) (w32_I (by clear H; unfold R32; omega)) ?_
                refine wp_call (k := 216) (ρ2 := 0) (L2 := [vr 53, vi (x2 + 3)]) rfl rfl rfl (Nat.le_of_ble_eq_true rfl) (Nat.le_of_ble_eq_true rfl) (Nat.le_of_ble_eq_true rfl) (rcv_V rfl (congrArg Prod.fst (kf_53 X.1))) rfl ?_
                refine wp_aload rfl rfl ?_
                refine wp_iload rfl rfl ?_
                refine wp_putI (j := 6) rfl (congrArg Prod.fst (kf_53 X.1)) rfl rfl rfl ?_
                refine wp_iload rfl rfl ?_
                refine wp_iret rfl rfl ?_
                show Wp X _ 214 67 [vr 53, vi x1, vi x2, vi ((h 54 (x2 + 1)) - 48), vi (-1), vu] [vi (x2 + 3)] _ _
                exact wp_iret rfl rfl H
              · replace H := H.2 c11
                refine wp_aload rfl rfl ?_
                refine wp_getR (r := 53) rfl (congrArg Prod.fst (kf_53 X.1)) rfl ?_
                refine wp_iload rfl rfl ?_
                have g12 := H.1
                replace H := H.2
                refine wp_iaload rfl (kf_54 X.1) g12 ?_
                refine wp_goto (tn := 22) rfl rfl ?_
                refine wp_iret rfl rfl ?_
                show Wp X _ 217 5 [vr 53, vi (x2 + 3), vi ((h 54 (x2 + 1)) - 48), vi 5, vu] [vi (h 54 (x2 + 3))] _ _
                refine wp_iconst rfl ?_
                refine wp_isub rfl ?_
                have g13 := H.1
                replace H := H.2
                refine Wp.topI (y := ((h 54 (x2 + 3)) - 48)) (w32_I g13) ?_
                refine wp_istore (L2 := [vr 53, vi (x2 + 3), vi ((h 54 (x2 + 1)) - 48), vi 5, vi ((h 54 (x2 + 3)) - 48)]) rfl (Nat.le_of_ble_eq_true rfl) rfl ?_
                refine wp_iload rfl rfl ?_
                refine wp_iload rfl rfl ?_
                refine wp_iclt (tn := 22) rfl rfl (fun c14 => ?_) (fun c14 => ?_)
                · replace H := H.1 c14
                  refine wp_iconst rfl ?_
                  refine wp_goto (tn := 28) rfl rfl ?_
                  refine wp_iret rfl rfl ?_
                  show Wp X _ 214 52 [vr 53, vi x1, vi x2, vi ((h 54 (x2 + 1)) - 48), vu, vu] [vi (-1)] _ _
                  refine wp_istore (L2 := [vr 53, vi x1, vi x2, vi ((h 54 (x2 + 1)) - 48), vi (-1), vu]) rfl (Nat.le_of_ble_eq_true rfl) rfl ?_
                  refine wp_iload rfl rfl ?_
                  refine wp_iconst rfl ?_
                  refine wp_icneF (tn := 68) rfl rfl (by decide) ?_
                  refine wp_aload rfl rfl ?_
                  refine wp_iload rfl rfl ?_
                  refine wp_iconst rfl ?_
                  refine wp_iadd rfl ?_
                  refine Wp.topI (y := (x2 + 3)) (w32_I (by clear H; unfold R32; omega)) ?_
                  refine wp_call (k := 216) (ρ2 := 0) (L2 := [vr 53, vi (x2 + 3)]) rfl rfl rfl (Nat.le_of_ble_eq_true rfl) (Nat.le_of_ble_eq_true rfl) (Nat.le_of_ble_eq_true rfl) (rcv_V rfl (congrArg Prod.fst (kf_53 X.1))) rfl ?_
                  refine wp_aload rfl rfl ?_
                  refine wp_iload rfl rfl ?_
                  refine wp_putI (j := 6) rfl (congrArg Prod.fst (kf_53 X.1)) rfl rfl rfl ?_
                  refine wp_iload rfl rfl ?_
                  refine wp_iret rfl rfl ?_
                  show Wp X _ 214 67 [vr 53, vi x1, vi x2, vi ((h 54 (x2 + 1)) - 48), vi (-1), vu] [vi (x2 + 3)] _ _
                  exact wp_iret rfl rfl H
                · replace H := H.2 c14
                  refine wp_iload rfl rfl ?_
                  refine wp_iload rfl rfl ?_
                  refine wp_icle (tn := 26) rfl rfl (fun c15 => ?_) (fun c15 => ?_)
                  · replace H := H.1 c15
                    refine wp_iload rfl rfl ?_
                    refine wp_iret rfl rfl ?_
                    show Wp X _ 214 52 [vr 53, vi x1, vi x2, vi ((h 54 (x2 + 1)) - 48), vu, vu] [vi ((h 54 (x2 + 3)) - 48)] _ _
                    refine wp_istore (L2 := [vr 53, vi x1, vi x2, vi ((h 54 (x2 + 1)) - 48), vi ((h 54 (x2 + 3)) - 48), vu]) rfl (Nat.le_of_ble_eq_true rfl) rfl ?_
                    refine wp_iload rfl rfl ?_
                    refine wp_iconst rfl ?_
                    refine wp_icne (tn := 68) rfl rfl (fun c16 => ?_) (fun c16 => ?_)
                    · replace H := H.1 c16
                      refine wp_aload rfl rfl ?_
                      refine wp_iload rfl rfl ?_
                      refine wp_iconst rfl ?_
                      refine wp_iadd rfl ?_
                      refine Wp.topI (y := (x2 + 4)) (w32_I (by clear H; unfold R32; omega)) ?_
                      refine wp_call (k := 218) (ρ2 := 0) (L2 := [vr 53, vi (x2 + 4)]) rfl rfl rfl (Nat.le_of_ble_eq_true rfl) (Nat.le_of_ble_eq_true rfl) (Nat.le_of_ble_eq_true rfl) (rcv_V rfl (congrArg Prod.fst (kf_53 X.1))) rfl ?_
                      refine wp_iload rfl rfl ?_
                      refine wp_ifltF (tn := 21) rfl rfl (by clear H; omega) ?_
                      refine wp_iload rfl rfl ?_
                      refine wp_aload rfl rfl ?_
                      refine wp_getI (j := 4) rfl (congrArg Prod.fst (kf_53 X.1)) rfl ?_
                      refine wp_icge (tn := 21) rfl rfl (fun c17 => ?_) (fun c17 => ?_)
                      · replace H := H.1 c17
                        refine wp_iconst rfl ?_
                        refine wp_iret rfl rfl ?_
                        show Wp X _ 214 75 [vr 53, vi x1, vi x2, vi ((h 54 (x2 + 1)) - 48), vi ((h 54 (x2 + 3)) - 48), vu] [vi (-1)] _ _
                        refine wp_iconst rfl ?_
                        refine wp_iceqF (tn := 88) rfl rfl (by decide) ?_
                        refine wp_aload rfl rfl ?_
                        refine wp_iload rfl rfl ?_
                        refine wp_iconst rfl ?_
                        refine wp_iadd rfl ?_
                        refine Wp.topI (y := (x2 + 4)) (w32_I (by clear H; unfold R32; omega)) ?_
                        refine wp_call (k := 216) (ρ2 := 0) (L2 := [vr 53, vi (x2 + 4)]) rfl rfl rfl (Nat.le_of_ble_eq_true rfl) (Nat.le_of_ble_eq_true rfl) (Nat.le_of_ble_eq_true rfl) (rcv_V rfl (congrArg Prod.fst (kf_53 X.1))) rfl ?_
                        refine wp_aload rfl rfl ?_
                        refine wp_iload rfl rfl ?_
                        refine wp_putI (j := 6) rfl (congrArg Prod.fst (kf_53 X.1)) rfl rfl rfl ?_
                        refine wp_iload rfl rfl ?_
                        refine wp_iret rfl rfl ?_
                        show Wp X _ 214 87 [vr 53, vi x1, vi x2, vi ((h 54 (x2 + 1)) - 48), vi ((h 54 (x2 + 3)) - 48), vu] [vi (x2 + 4)] _ _
                        exact wp_iret rfl rfl H
                      · replace H := H.2 c17
                        refine wp_aload rfl rfl ?_
                        refine wp_getR (r := 53) rfl (congrArg Prod.fst (kf_53 X.1)) rfl ?_
                        refine wp_iload rfl rfl ?_
                        have g18 := H.1
                        replace H := H.2
                        refine wp_iaload rfl (kf_54 X.1) g18 ?_
                        refine wp_goto (tn := 22) rfl rfl ?_
                        refine wp_iret rfl rfl ?_
                        show Wp X _ 214 75 [vr 53, vi x1, vi x2, vi ((h 54 (x2 + 1)) - 48), vi ((h 54 (x2 + 3)) - 48), vu] [vi (h 54 (x2 + 4))] _ _
                        refine wp_iconst rfl ?_
                        refine wp_iceq (tn := 88) rfl rfl (fun c19 => ?_) (fun c19 => ?_)
                        · replace H := H.1 c19
                          refine wp_aload rfl rfl ?_
                          refine wp_iload rfl rfl ?_
                          refine wp_iconst rfl ?_
                          refine wp_iadd rfl ?_
                          refine Wp.topI (y := (x2 + 5)) (w32_I (by clear H; unfold R32; omega)) ?_
                          refine wp_iconst rfl ?_
                          refine wp_iconst rfl ?_
                          refine wp_call (k := 217) (ρ2 := 1) (L2 := [vr 53, vi (x2 + 5), vi 0, vi 3, vu]) rfl rfl rfl (Nat.le_of_ble_eq_true rfl) (Nat.le_of_ble_eq_true rfl) (Nat.le_of_ble_eq_true rfl) (rcv_V rfl (congrArg Prod.fst (kf_53 X.1))) rfl ?_
                          refine wp_aload rfl rfl ?_
                          refine wp_iload rfl rfl ?_
                          refine wp_call (k := 218) (ρ2 := 0) (L2 := [vr 53, vi (x2 + 5)]) rfl rfl rfl (Nat.le_of_ble_eq_true rfl) (Nat.le_of_ble_eq_true rfl) (Nat.le_of_ble_eq_true rfl) (rcv_V rfl (congrArg Prod.fst (kf_53 X.1))) rfl ?_
                          refine wp_iload rfl rfl ?_
                          refine wp_ifltF (tn := 21) rfl rfl (by clear H; omega) ?_
                          refine wp_iload rfl rfl ?_
                          refine wp_aload rfl rfl ?_
                          refine wp_getI (j := 4) rfl (congrArg Prod.fst (kf_53 X.1)) rfl ?_
                          refine wp_icge (tn := 21) rfl rfl (fun c20 => ?_) (fun c20 => ?_)
                          · replace H := H.1 c20
                            refine wp_iconst rfl ?_
                            refine wp_iret rfl rfl ?_
                            show Wp X _ 217 5 [vr 53, vi (x2 + 5), vi 0, vi 3, vu] [vi (-1)] _ _
                            refine wp_iconst rfl ?_
                            refine wp_isub rfl ?_
                            refine Wp.topI (y := (-49)) (by decide) ?_
                            refine wp_istore (L2 := [vr 53, vi (x2 + 5), vi 0, vi 3, vi (-49)]) rfl (Nat.le_of_ble_eq_true rfl) rfl ?_
                            refine wp_iload rfl rfl ?_
                            refine wp_iload rfl rfl ?_
                            refine wp_icltT (tn := 22) rfl rfl (by decide) ?_
                            refine wp_iconst rfl ?_
                            refine wp_goto (tn := 28) rfl rfl ?_
                            refine wp_iret rfl rfl ?_
                            show Wp X _ 214 97 [vr 53, vi x1, vi x2, vi ((h 54 (x2 + 1)) - 48), vi ((h 54 (x2 + 3)) - 48), vu] [vi (-1)] _ _
                            refine wp_istore (L2 := [vr 53, vi x1, vi x2, vi ((h 54 (x2 + 1)) - 48), vi ((h 54 (x2 + 3)) - 48), vi (-1)]) rfl (Nat.le_of_ble_eq_true rfl) rfl ?_
                            refine wp_iload rfl rfl ?_
                            refine wp_iconst rfl ?_
                            refine wp_icneF (tn := 113) rfl rfl (by decide) ?_
                            refine wp_aload rfl rfl ?_
                            refine wp_iload rfl rfl ?_
                            refine wp_iconst rfl ?_
                            refine wp_iadd rfl ?_
                            refine Wp.topI (y := (x2 + 5)) (w32_I (by clear H; unfold R32; omega)) ?_
                            refine wp_call (k := 216) (ρ2 := 0) (L2 := [vr 53, vi (x2 + 5)]) rfl rfl rfl (Nat.le_of_ble_eq_true rfl) (Nat.le_of_ble_eq_true rfl) (Nat.le_of_ble_eq_true rfl) (rcv_V rfl (congrArg Prod.fst (kf_53 X.1))) rfl ?_
                            refine wp_aload rfl rfl ?_
                            refine wp_iload rfl rfl ?_
                            refine wp_putI (j := 6) rfl (congrArg Prod.fst (kf_53 X.1)) rfl rfl rfl ?_
                            refine wp_iload rfl rfl ?_
                            refine wp_iret rfl rfl ?_
                            show Wp X _ 214 112 [vr 53, vi x1, vi x2, vi ((h 54 (x2 + 1)) - 48), vi ((h 54 (x2 + 3)) - 48), vi (-1)] [vi (x2 + 5)] _ _
                            exact wp_iret rfl rfl H
                          · replace H := H.2 c20
                            refine wp_aload rfl rfl ?_
                            refine wp_getR (r := 53) rfl (congrArg Prod.fst (kf_53 X.1)) rfl ?_
                            refine wp_iload rfl rfl ?_
                            have g21 := H.1
                            replace H := H.2
                            refine wp_iaload rfl (kf_54 X.1) g21 ?_
                            refine wp_goto (tn := 22) rfl rfl ?_
                            refine wp_iret rfl rfl ?_
                            show Wp X _ 217 5 [vr 53, vi (x2 + 5), vi 0, vi 3, vu] [vi (h 54 (x2 + 5))] _ _
                            refine wp_iconst rfl ?_
                            refine wp_isub rfl ?_
                            have g22 := H.1
                            replace H := H.2
                            refine Wp.topI (y := ((h 54 (x2 + 5)) - 48)) (w32_I g22) ?_
                            refine wp_istore (L2 := [vr 53, vi (x2 + 5), vi 0, vi 3, vi ((h 54 (x2 + 5)) - 48)]) rfl (Nat.le_of_ble_eq_true rfl) rfl ?_
                            refine wp_iload rfl rfl ?_
                            refine wp_iload rfl rfl ?_
                            refine wp_iclt (tn := 22) rfl rfl (fun c23 => ?_) (fun c23 => ?_)
                            · replace H := H.1 c23
                              refine wp_iconst rfl ?_
                              refine wp_goto (tn := 28) rfl rfl ?_
                              refine wp_iret rfl rfl ?_
                              show Wp X _ 214 97 [vr 53, vi x1, vi x2, vi ((h 54 (x2 + 1)) - 48), vi ((h 54 (x2 + 3)) - 48), vu] [vi (-1)] _ _
                              refine wp_istore (L2 := [vr 53, vi x1, vi x2, vi ((h 54 (x2 + 1)) - 48), vi ((h 54 (x2 + 3)) - 48), vi (-1)]) rfl (Nat.le_of_ble_eq_true rfl) rfl ?_
                              refine wp_iload rfl rfl ?_
                              refine wp_iconst rfl ?_
                              refine wp_icneF (tn := 113) rfl rfl (by decide) ?_
                              refine wp_aload rfl rfl ?_
                              refine wp_iload rfl rfl ?_
                              refine wp_iconst rfl ?_
                              refine wp_iadd rfl ?_
                              refine Wp.topI (y := (x2 + 5)) (w32_I (by clear H; unfold R32; omega)) ?_
                              refine wp_call (k := 216) (ρ2 := 0) (L2 := [vr 53, vi (x2 + 5)]) rfl rfl rfl (Nat.le_of_ble_eq_true rfl) (Nat.le_of_ble_eq_true rfl) (Nat.le_of_ble_eq_true rfl) (rcv_V rfl (congrArg Prod.fst (kf_53 X.1))) rfl ?_
                              refine wp_aload rfl rfl ?_
                              refine wp_iload rfl rfl ?_
                              refine wp_putI (j := 6) rfl (congrArg Prod.fst (kf_53 X.1)) rfl rfl rfl ?_
                              refine wp_iload rfl rfl ?_
                              refine wp_iret rfl rfl ?_
                              show Wp X _ 214 112 [vr 53, vi x1, vi x2, vi ((h 54 (x2 + 1)) - 48), vi ((h 54 (x2 + 3)) - 48), vi (-1)] [vi (x2 + 5)] _ _
                              exact wp_iret rfl rfl H
                            · replace H := H.2 c23
                              refine wp_iload rfl rfl ?_
                              refine wp_iload rfl rfl ?_
                              refine wp_icle (tn := 26) rfl rfl (fun c24 => ?_) (fun c24 => ?_)
                              · replace H := H.1 c24
                                refine wp_iload rfl rfl ?_
                                refine wp_iret rfl rfl ?_
                                show Wp X _ 214 97 [vr 53, vi x1, vi x2, vi ((h 54 (x2 + 1)) - 48), vi ((h 54 (x2 + 3)) - 48), vu] [vi ((h 54 (x2 + 5)) - 48)] _ _
                                refine wp_istore (L2 := [vr 53, vi x1, vi x2, vi ((h 54 (x2 + 1)) - 48), vi ((h 54 (x2 + 3)) - 48), vi ((h 54 (x2 + 5)) - 48)]) rfl (Nat.le_of_ble_eq_true rfl) rfl ?_
                                refine wp_iload rfl rfl ?_
                                refine wp_iconst rfl ?_
                                refine wp_icneT (tn := 113) rfl rfl (by clear H; omega) ?_
                                refine wp_aload rfl rfl ?_
                                refine wp_getR (r := 56) rfl (congrArg Prod.fst (kf_53 X.1)) rfl ?_
                                refine wp_iload rfl rfl ?_
                                refine wp_iload rfl rfl ?_
                                refine wp_iload rfl rfl ?_
                                refine wp_iload rfl rfl ?_
                                exact wp_call (k := 245) (ρ2 := 1) (L2 := [vr 57, vi x1, vi ((h 54 (x2 + 1)) - 48), vi ((h 54 (x2 + 3)) - 48), vi ((h 54 (x2 + 5)) - 48), vu, vu]) rfl rfl rfl (Nat.le_of_ble_eq_true rfl) (Nat.le_of_ble_eq_true rfl) (Nat.le_of_ble_eq_true rfl) (rcv_V rfl (congrArg Prod.fst (kf_57 X.1))) rfl H
                              · replace H := H.2 c24
                                refine wp_iconst rfl ?_
                                refine wp_goto (tn := 28) rfl rfl ?_
                                refine wp_iret rfl rfl ?_
                                show Wp X _ 214 97 [vr 53, vi x1, vi x2, vi ((h 54 (x2 + 1)) - 48), vi ((h 54 (x2 + 3)) - 48), vu] [vi (-1)] _ _
                                refine wp_istore (L2 := [vr 53, vi x1, vi x2, vi ((h 54 (x2 + 1)) - 48), vi ((h 54 (x2 + 3)) - 48), vi (-1)]) rfl (Nat.le_of_ble_eq_true rfl) rfl ?_
                                refine wp_iload rfl rfl ?_
                                refine wp_iconst rfl ?_
                                refine wp_icneF (tn := 113) rfl rfl (by decide) ?_
                                refine wp_aload rfl rfl ?_
                                refine wp_iload rfl rfl ?_
                                refine wp_iconst rfl ?_
                                refine wp_iadd rfl ?_
                                refine Wp.topI (y := (x2 + 5)) (w32_I (by clear H; unfold R32; omega)) ?_
                                refine wp_call (k := 216) (ρ2 := 0) (L2 := [vr 53, vi (x2 + 5)]) rfl rfl rfl (Nat.le_of_ble_eq_true rfl) (Nat.le_of_ble_eq_true rfl) (Nat.le_of_ble_eq_true rfl) (rcv_V rfl (congrArg Prod.fst (kf_53 X.1))) rfl ?_
                                refine wp_aload rfl rfl ?_
                                refine wp_iload rfl rfl ?_
                                refine wp_putI (j := 6) rfl (congrArg Prod.fst (kf_53 X.1)) rfl rfl rfl ?_
                                refine wp_iload rfl rfl ?_
                                refine wp_iret rfl rfl ?_
                                show Wp X _ 214 112 [vr 53, vi x1, vi x2, vi ((h 54 (x2 + 1)) - 48), vi ((h 54 (x2 + 3)) - 48), vi (-1)] [vi (x2 + 5)] _ _
                                exact wp_iret rfl rfl H
                        · replace H := H.2 c19
                          refine wp_aload rfl rfl ?_
                          refine wp_iload rfl rfl ?_
                          refine wp_iconst rfl ?_
                          refine wp_iadd rfl ?_
                          refine Wp.topI (y := (x2 + 4)) (w32_I (by clear H; unfold R32; omega)) ?_
                          refine wp_call (k := 216) (ρ2 := 0) (L2 := [vr 53, vi (x2 + 4)]) rfl rfl rfl (Nat.le_of_ble_eq_true rfl) (Nat.le_of_ble_eq_true rfl) (Nat.le_of_ble_eq_true rfl) (rcv_V rfl (congrArg Prod.fst (kf_53 X.1))) rfl ?_
                          refine wp_aload rfl rfl ?_
                          refine wp_iload rfl rfl ?_
                          refine wp_putI (j := 6) rfl (congrArg Prod.fst (kf_53 X.1)) rfl rfl rfl ?_
                          refine wp_iload rfl rfl ?_
                          refine wp_iret rfl rfl ?_
                          show Wp X _ 214 87 [vr 53, vi x1, vi x2, vi ((h 54 (x2 + 1)) - 48), vi ((h 54 (x2 + 3)) - 48), vu] [vi (x2 + 4)] _ _
                          exact wp_iret rfl rfl H
                    · replace H := H.2 c16
                      refine wp_aload rfl rfl ?_
                      refine wp_iload rfl rfl ?_
                      refine wp_iconst rfl ?_
                      refine wp_iadd rfl ?_
                      refine Wp.topI (y := (x2 + 3)) (w32_I (by clear H; unfold R32; omega)) ?_
                      refine wp_call (k := 216) (ρ2 := 0) (L2 := [vr 53, vi (x2 + 3)]) rfl rfl rfl (Nat.le_of_ble_eq_true rfl) (Nat.le_of_ble_eq_true rfl) (Nat.le_of_ble_eq_true rfl) (rcv_V rfl (congrArg Prod.fst (kf_53 X.1))) rfl ?_
                      refine wp_aload rfl rfl ?_
                      refine wp_iload rfl rfl ?_
                      refine wp_putI (j := 6) rfl (congrArg Prod.fst (kf_53 X.1)) rfl rfl rfl ?_
                      refine wp_iload rfl rfl ?_
                      refine wp_iret rfl rfl ?_
                      show Wp X _ 214 67 [vr 53, vi x1, vi x2, vi ((h 54 (x2 + 1)) - 48), vi ((h 54 (x2 + 3)) - 48), vu] [vi (x2 + 3)] _ _
                      exact wp_iret rfl rfl H
                  · replace H := H.2 c15
                    refine wp_iconst rfl ?_
                    refine wp_goto (tn := 28) rfl rfl ?_
                    refine wp_iret rfl rfl ?_
                    show Wp X _ 214 52 [vr 53, vi x1, vi x2, vi ((h 54 (x2 + 1)) - 48), vu, vu] [vi (-1)] _ _
                    refine wp_istore (L2 := [vr 53, vi x1, vi x2, vi ((h 54 (x2 + 1)) - 48), vi (-1), vu]) rfl (Nat.le_of_ble_eq_true rfl) rfl ?_
                    refine wp_iload rfl rfl ?_
                    refine wp_iconst rfl ?_
                    refine wp_icneF (tn := 68) rfl rfl (by decide) ?_
                    refine wp_aload rfl rfl ?_
                    refine wp_iload rfl rfl ?_
                    refine wp_iconst rfl ?_
                    refine wp_iadd rfl ?_
                    refine Wp.topI (y := (x2 + 3)) (w32_I (by clear H; unfold R32; omega)) ?_
                    refine wp_call (k := 216) (ρ2 := 0) (L2 := [vr 53, vi (x2 + 3)]) rfl rfl rfl (Nat.le_of_ble_eq_true rfl) (Nat.le_of_ble_eq_true rfl) (Nat.le_of_ble_eq_true rfl) (rcv_V rfl (congrArg Prod.fst (kf_53 X.1))) rfl ?_
                    refine wp_aload rfl rfl ?_
                    refine wp_iload rfl rfl ?_
                    refine wp_putI (j := 6) rfl (congrArg Prod.fst (kf_53 X.1)) rfl rfl rfl ?_
                    refine wp_iload rfl rfl ?_
                    refine wp_iret rfl rfl ?_
                    show Wp X _ 214 67 [vr 53, vi x1, vi x2, vi ((h 54 (x2 + 1)) - 48), vi (-1), vu] [vi (x2 + 3)] _ _
                    exact wp_iret rfl rfl H
            · replace H := H.2 c10
              refine wp_aload rfl rfl ?_
              refine wp_iload rfl rfl ?_
              refine wp_iconst rfl ?_
              refine wp_iadd rfl ?_
              refine Wp.topI (y := (x2 + 2)) (w32_I (by clear H; unfold R32; omega)) ?_
              refine wp_call (k := 216) (ρ2 := 0) (L2 := [vr 53, vi (x2 + 2)]) rfl rfl rfl (Nat.le_of_ble_eq_true rfl) (Nat.le_of_ble_eq_true rfl) (Nat.le_of_ble_eq_true rfl) (rcv_V rfl (congrArg Prod.fst (kf_53 X.1))) rfl ?_
              refine wp_aload rfl rfl ?_
              refine wp_iload rfl rfl ?_
              refine wp_putI (j := 6) rfl (congrArg Prod.fst (kf_53 X.1)) rfl rfl rfl ?_
              refine wp_iload rfl rfl ?_
              refine wp_iret rfl rfl ?_
              show Wp X _ 214 42 [vr 53, vi x1, vi x2, vi ((h 54 (x2 + 1)) - 48), vu, vu] [vi (x2 + 2)] _ _
              exact wp_iret rfl rfl H
        · replace H := H.2 c7
          refine wp_iconst rfl ?_
          refine wp_goto (tn := 28) rfl rfl ?_
          refine wp_iret rfl rfl ?_
          show Wp X _ 214 9 [vr 53, vi x1, vi x2, vu, vu, vu] [vi (-1)] _ _
          refine wp_istore (L2 := [vr 53, vi x1, vi x2, vi (-1), vu, vu]) rfl (Nat.le_of_ble_eq_true rfl) rfl ?_
          refine wp_iload rfl rfl ?_
          refine wp_iconst rfl ?_
          refine wp_icneF (tn := 23) rfl rfl (by decide) ?_
          refine wp_aload rfl rfl ?_
          refine wp_iload rfl rfl ?_
          refine wp_iconst rfl ?_
          refine wp_iadd rfl ?_
          refine Wp.topI (y := (x2 + 1)) (w32_I (by clear H; unfold R32; omega)) ?_
          refine wp_call (k := 216) (ρ2 := 0) (L2 := [vr 53, vi (x2 + 1)]) rfl rfl rfl (Nat.le_of_ble_eq_true rfl) (Nat.le_of_ble_eq_true rfl) (Nat.le_of_ble_eq_true rfl) (rcv_V rfl (congrArg Prod.fst (kf_53 X.1))) rfl ?_
          refine wp_aload rfl rfl ?_
          refine wp_iload rfl rfl ?_
          refine wp_putI (j := 6) rfl (congrArg Prod.fst (kf_53 X.1)) rfl rfl rfl ?_
          refine wp_iload rfl rfl ?_
          refine wp_iret rfl rfl ?_
          show Wp X _ 214 22 [vr 53, vi x1, vi x2, vi (-1), vu, vu] [vi (x2 + 1)] _ _
          exact wp_iret rfl rfl H
/-- RuleText.readZoneRule(II)I, from 126 -/
theorem S214_53_126 {X : Nat × (Int → Int)} {h : HP} {Q : bQ} (x1 : Int) (x2 : Int) (x3 : Int) (zx4 : aV) (zx5 : aV) (H : ((x1 < 0 → ((R32 (x2 + 6)) ∧ Q (some (vi (x2 + 6))) h)) ∧ (0 ≤ x1 → ((8 ≤ x1 → ((R32 (x2 + 6)) ∧ Q (some (vi (x2 + 6))) h)) ∧ (x1 < 8 → ((R32 (x2 + 6)) ∧ Q (some (vi (x2 + 6))) (upd2 (upd2 h 55 x1 122) 56 x1 x3))))))) : Wp X 2 214 126 [vr 53, vi x1, vi x2, vi x3, zx4, zx5] [] h Q := by
  refine wp_aload rfl rfl ?_
  refine wp_iload rfl rfl ?_
  refine wp_iconst rfl ?_
  refine wp_iload rfl rfl ?_
  refine wp_call (k := 215) (ρ2 := 0) (L2 := [vr 53, vi x1, vi 122, vi x3]) rfl rfl rfl (Nat.le_of_ble_eq_true rfl) (Nat.le_of_ble_eq_true rfl) (Nat.le_of_ble_eq_true rfl) (rcv_V rfl (congrArg Prod.fst (kf_53 X.1))) rfl ?_
  refine wp_iload rfl rfl ?_
  refine wp_iflt (tn := 24) rfl rfl (fun c1 => ?_) (fun c1 => ?_)
  · replace H := H.1 c1
    refine wp_vret rfl rfl ?_
    show Wp X _ 214 134 [vr 53, vi x1, vi x2, vi x3, zx4, zx5] [] _ _
    refine wp_iload rfl rfl ?_
    refine wp_iconst rfl ?_
    refine wp_iadd rfl ?_
    have g2 := H.1
    replace H := H.2
    refine Wp.topI (y := (x2 + 6)) (w32_I g2) ?_
    exact wp_iret rfl rfl H
  · replace H := H.2 c1
    refine wp_iload rfl rfl ?_
    refine wp_iconst rfl ?_
    refine wp_icge (tn := 24) rfl rfl (fun c3 => ?_) (fun c3 => ?_)
    · replace H := H.1 c3
      refine wp_vret rfl rfl ?_
      show Wp X _ 214 134 [vr 53, vi x1, vi x2, vi x3, zx4, zx5] [] _ _
      refine wp_iload rfl rfl ?_
      refine wp_iconst rfl ?_
      refine wp_iadd rfl ?_
      have g4 := H.1
      replace H := H.2
      refine Wp.topI (y := (x2 + 6)) (w32_I g4) ?_
      exact wp_iret rfl rfl H
    · replace H := H.2 c3
      refine wp_aload rfl rfl ?_
      refine wp_getR (r := 54) rfl (congrArg Prod.fst (kf_53 X.1)) rfl ?_
      refine wp_iload rfl rfl ?_
      refine wp_iload rfl rfl ?_
      refine wp_iastore rfl (kf_55 X.1) ⟨c1, c3⟩ ?_
      refine wp_aload rfl rfl ?_
      refine wp_getR (r := 55) rfl (congrArg Prod.fst (kf_53 X.1)) rfl ?_
      refine wp_iload rfl rfl ?_
      refine wp_iload rfl rfl ?_
      refine wp_iastore rfl (kf_56 X.1) ⟨c1, c3⟩ ?_
      refine wp_vret rfl rfl ?_
      show Wp X _ 214 134 [vr 53, vi x1, vi x2, vi x3, zx4, zx5] [] _ _
      refine wp_iload rfl rfl ?_
      refine wp_iconst rfl ?_
      refine wp_iadd rfl ?_
      have g5 := H.1
      replace H := H.2
      refine Wp.topI (y := (x2 + 6)) (w32_I g5) ?_
      exact wp_iret rfl rfl H
