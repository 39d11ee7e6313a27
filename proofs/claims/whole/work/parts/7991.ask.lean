-- ===== calls that only ask: groups and lines =====
theorem Fr.fM_P {h h' : HP} (F : Fr fM h h') : P h' = P h := F.toP (fun _ _ c => c.2)
theorem ag_q {X : Nat × (Int → Int)} {ρ1 k ρ2 m : Nat} {w : Int → aV} {L1 L2 : List aV} (A : HP → Int) (c : ∀ h, Inv h → Wp X ρ1 k 0 L1 [] h (fun r h1 => r = some (w (A h)) ∧ P h1 = P h ∧ NT h1)) (d : ∀ h h1, Inv h → P h1 = P h → Wp X ρ2 m 0 L2 [] h1 (fun r h2 => r = some (w (A h)) ∧ Fr fM h1 h2)) : Ag X Inv ρ1 k ρ2 m w L1 L2 := fun h i => (c h i).mono fun r h1 _ e => ⟨A h, e.1, (d h h1 i e.2.1).mono fun r2 h2 _ f => ⟨f.1, Inv_q i (f.2.fM_P.trans e.2.1) (e.2.2.fr f.2)⟩⟩
theorem q_same {h h' : HP} (i : Inv h) (e : h' = h) : P h' = P h ∧ NT h' := by rw [e]; exact ⟨rfl, i.2⟩
def Mid (h : HP) : Prop := 0 < qM (mq5 h) (ob (mq5 h))
theorem fV_M {a : Nat} {j : Int} (c : fVv a j) : fM a j := by unfold fVv at c; unfold fM scr; omega
theorem fB_M {a : Nat} {j : Int} (c : fB a j) : fM a j := by unfold fB at c; unfold fM scr; omega
theorem fRd_M {a : Nat} {j : Int} (c : fRd a j) : fM a j := by unfold fRd at c; unfold fM scr; omega
theorem Inv.tok {h : HP} (i : Inv h) : Tok h := i.1.2.1.1
theorem Inv.sok {h : HP} (i : Inv h) : Sok h := i.1.1.2.1
theorem Inv.g8 {h : HP} (i : Inv h) : h 8 8 = h 89 5 := i.1.2.1.2.2.2.1
theorem Inv.lok {h : HP} (i : Inv h) : Lok (mq5 h) := mq5_ok i.tok i.sok
theorem Inv.cv {h : HP} (i : Inv h) : CV (VL h) (h 89 5) h := i.1.2.2.1.2.1
theorem Inv.ll {h : HP} (i : Inv h) : LL1 (mq5 h) (ob (mq5 h)) h := i.1.2.2.1.2.2.1
theorem Inv.row {h : HP} (i : Inv h) : RowIs 37 h (rwl (VL h) (gn h)) (mnV (VL h)) (qsg (mq5 h)) := i.1.2.2.1.2.2.2
theorem mid_n {h : HP} : ¬ Mid h → qM (mq5 h) (ob (mq5 h)) ≤ 0 := fun q => Int.not_lt.mp q
section
variable {X : Nat × (Int → Int)}
-- value
def A_value (h : HP) (g p : Int) : Int := if 0 ≤ g ∧ g < h 89 5 ∧ 0 ≤ p ∧ p ≤ 4 then VL h (5 * g + p) else -2
theorem a5 (y1 y2 : Int) : Ag X Inv 2 5 2 71 vi [vr 6, vi y1, vi y2] [vr 89, vi y1, vi y2] := by
  refine ag_q (fun h => A_value h y1 y2) (fun h i => ?_) (fun h h1 i e => ?_)
  · have cv := i.cv
    have g8 := i.g8
    have t := i.tok.1
    have R : ∀ {r : Int}, r = A_value h y1 y2 → (some (vi r) = some (vi (A_value h y1 y2)) ∧ P h = P h ∧ NT h) := fun q => ⟨by rw [q], rfl, i.2⟩
    have hA : A_value h y1 y2 = A_value h y1 y2 := rfl
    conv at hA => rhs; unfold A_value
    refine S5_6_0 _ _ ⟨fun q => R ?_, fun q1 => ⟨fun q => R ?_, fun q2 => ⟨fun q => R ?_, fun q3 => ⟨fun q4 => ⟨⟨by omega, by omega⟩, R ?_⟩, fun q => R ?_⟩⟩⟩⟩
    · rw [hA, if_neg (by omega)]
    · rw [hA, if_neg (by omega)]
    · rw [hA, if_neg (by omega)]
    · rw [hA, if_pos (by omega)]
      exact (cv.1 y1 q1 (by omega)).1 y2 q3 (by omega)
    · rw [hA, if_neg (by omega)]
  · have t := i.tok.1
    have g5 : h1 89 5 = h 89 5 := congrFun (congrFun e 89) 5
    have R : ∀ {r : Int}, r = A_value h y1 y2 → (some (vi r) = some (vi (A_value h y1 y2)) ∧ Fr fM h1 h1) := fun q => ⟨by rw [q], Fr.rf⟩
    have R2 : ∀ {r : Int} {h2 : HP}, r = A_value h y1 y2 → Fr fVv h1 h2 → (some (vi r) = some (vi (A_value h y1 y2)) ∧ Fr fM h1 h2) := fun q F => ⟨by rw [q], F.mo fun _ _ c => fV_M c⟩
    have hA : A_value h y1 y2 = A_value h y1 y2 := rfl
    conv at hA => rhs; unfold A_value
    refine S71_89_0 _ _ ?_
    rw [g5]
    simp only [lcp_l, lcp_ge, lcp_g, lcp_le]
    refine ⟨by unfold R32; omega, fun q => R ?_, fun q1 => ⟨fun q => R ?_, fun q2 => ⟨fun q => R ?_, fun q3 => ⟨fun q => R ?_, fun q4 => (K70 e i.tok).mono fun r h2 _ f => ?_⟩⟩⟩⟩
    · rw [hA, if_neg (by omega)]
    · rw [hA, if_neg (by omega)]
    · rw [hA, if_neg (by omega)]
    · rw [hA, if_neg (by omega)]
    · obtain ⟨rfl, -, F, v⟩ := f
      refine S71_89_27 _ _ ⟨by unfold R32; omega, by unfold R32; omega, ⟨by omega, by omega⟩, R2 ?_ F⟩
      rw [hA, if_pos (by omega)]
      exact v.1 _ (by omega) (by omega)
-- of
def A_of (h : HP) (g which what : Int) : Int := if 0 ≤ g ∧ g < h 89 5 ∧ 0 ≤ which ∧ which ≤ 1 ∧ 0 ≤ what ∧ what ≤ 1 then (if cnp (VL h) g 5 = 0 then -9223372036854775805 else if which = 0 then prt (mnV (VL h) g) 60 what else prt (spV (VL h) g) 1 what) else -9223372036854775806
theorem a6 (y1 y2 y3 : Int) : Ag X Inv 2 6 2 72 vl [vr 6, vi y1, vi y2, vi y3] [vr 89, vi y1, vi y2, vi y3] := by
  refine ag_q (fun h => A_of h y1 y2 y3) (fun h i => ?_) (fun h h1 i e => ?_)
  · have cv := i.cv
    have g8 := i.g8
    have t := i.tok.1
    have hV := VL_ok i.tok
    have R : ∀ {r : Int}, r = A_of h y1 y2 y3 → (some (vl r) = some (vl (A_of h y1 y2 y3)) ∧ P h = P h ∧ NT h) := fun q => ⟨by rw [q], rfl, i.2⟩
    have hA : A_of h y1 y2 y3 = A_of h y1 y2 y3 := rfl
    conv at hA => rhs; unfold A_of
    refine S6_6_0 _ _ _ ⟨fun q => R ?_, fun q1 => ⟨fun q => R ?_, fun q2 => ⟨fun q => R ?_, fun q3 => ⟨fun q4 => ⟨fun q => R ?_, fun q5 => ⟨fun q6 => ⟨⟨by omega, by omega⟩, ?_⟩, fun q => R ?_⟩⟩, fun q => R ?_⟩⟩⟩⟩
    · rw [hA, if_neg (by omega)]
    · rw [hA, if_neg (by omega)]
    · rw [hA, if_neg (by omega)]
    · rw [hA, if_neg (by omega)]
    · have c := cv.1 y1 q1 (by omega)
      have m1 := mnV_r hV y1
      have m2 := spV_r hV y1
      rw [if_pos (by omega)] at hA
      rw [c.2.1, c.2.2]
      by_cases hc : cnp (VL h) y1 5 = 0
      · rw [if_pos hc] at hA ⊢
        exact ⟨fun q => absurd rfl q, fun _ => R hA.symm⟩
      · rw [if_neg hc] at hA ⊢
        refine ⟨fun _ => ⟨fun q => (K45 (by omega) (by omega)).mono fun v h2 _ f => ?_, fun q => (K45 (by omega) (by omega)).mono fun v h2 _ f => ?_⟩, fun q => absurd q (by omega)⟩
        · obtain ⟨rfl, rfl⟩ := f
          rw [if_neg q] at hA
          exact S6_6_89 _ _ _ _ _ (R hA.symm)
        · obtain ⟨rfl, rfl⟩ := f
          rw [if_pos q] at hA
          exact S6_6_72 _ _ _ _ _ (S6_6_89 _ _ _ _ _ (R hA.symm))
    · rw [hA, if_neg (by omega)]
    · rw [hA, if_neg (by omega)]
  · have t := i.tok.1
    have hV := VL_ok i.tok
    have g5 : h1 89 5 = h 89 5 := congrFun (congrFun e 89) 5
    have R : ∀ {r : Int}, r = A_of h y1 y2 y3 → (some (vl r) = some (vl (A_of h y1 y2 y3)) ∧ Fr fM h1 h1) := fun q => ⟨by rw [q], Fr.rf⟩
    have R2 : ∀ {r : Int} {h2 : HP}, r = A_of h y1 y2 y3 → Fr fVv h1 h2 → (some (vl r) = some (vl (A_of h y1 y2 y3)) ∧ Fr fM h1 h2) := fun q F => ⟨by rw [q], F.mo fun _ _ c => fV_M c⟩
    have hA : A_of h y1 y2 y3 = A_of h y1 y2 y3 := rfl
    conv at hA => rhs; unfold A_of
    refine S72_89_0 _ _ _ ?_
    rw [g5]
    simp only [lcp_l, lcp_ge, lcp_g, lcp_le]
    refine ⟨by unfold R32; omega, fun q => R ?_, fun q1 => ⟨fun q => R ?_, fun q2 => ⟨fun q => R ?_, fun q3 => ⟨fun q => R ?_, fun q4 => ⟨fun q => R ?_, fun q5 => ⟨fun q => R ?_, fun q6 => (K70 e i.tok).mono fun r h2 _ f => ?_⟩⟩⟩⟩⟩⟩
    · rw [hA, if_neg (by omega)]
    · rw [hA, if_neg (by omega)]
    · rw [hA, if_neg (by omega)]
    · rw [hA, if_neg (by omega)]
    · rw [hA, if_neg (by omega)]
    · rw [hA, if_neg (by omega)]
    · obtain ⟨rfl, -, F, v⟩ := f
      have vg := v.2.1 y1 q1 (by omega)
      have m1 := mnV_r hV y1
      have m2 := spV_r hV y1
      rw [if_pos (by omega)] at hA
      refine S72_89_32 _ _ _ ⟨⟨by omega, by omega⟩, ?_⟩
      rw [vg.1, vg.2.1, vg.2.2]
      by_cases hc : cnp (VL h) y1 5 = 0
      · rw [if_pos hc] at hA ⊢
        exact ⟨fun q => absurd q (by decide), fun _ => S72_89_82 _ _ _ _ _ (R2 hA.symm F)⟩
      · rw [if_neg hc] at hA ⊢
        refine ⟨fun _ => ⟨fun q => (K61 (by omega) (by omega)).mono fun v h3 _ f => ?_, fun q => (K61 (by omega) (by omega)).mono fun v h3 _ f => ?_⟩, fun q => absurd rfl q⟩
        · obtain ⟨rfl, rfl⟩ := f
          rw [if_neg q] at hA
          exact S72_89_82 _ _ _ _ _ (R2 hA.symm F)
        · obtain ⟨rfl, rfl⟩ := f
          rw [if_pos q] at hA
          exact S72_89_67 _ _ _ _ _ (S72_89_82 _ _ _ _ _ (R2 hA.symm F))
-- base
def B_base (h : HP) (which what : Int) : Int := if 0 < qM (mq5 h) (ob (mq5 h)) then (if which = 0 then prt (qS (mq5 h) (ob (mq5 h))) (60 * qM (mq5 h) (ob (mq5 h))) what else prt (qP (mq5 h) (ob (mq5 h)) * h 97 2) (300 * qM (mq5 h) (ob (mq5 h))) what) else -9223372036854775805
def A_base (h : HP) (which what : Int) : Int := if 0 ≤ which ∧ which ≤ 1 ∧ 0 ≤ what ∧ what ≤ 1 then B_base h which what else -9223372036854775806
theorem C7 {h : HP} (i : Inv h) (y1 y2 : Int) : Wp X 2 7 0 [vr 6, vi y1, vi y2] [] h (fun r h1 => r = some (vl (A_base h y1 y2)) ∧ h1 = h) := by
  have L := i.ll
  have hL := i.lok
  have s := i.sok
  have bm : 0 ≤ qM (mq5 h) (ob (mq5 h)) ∧ qM (mq5 h) (ob (mq5 h)) ≤ 20 := bM_r
  have bs : 0 ≤ qS (mq5 h) (ob (mq5 h)) ∧ qS (mq5 h) (ob (mq5 h)) ≤ 1198800 := bS_r hL.1
  have bp : 0 ≤ qP (mq5 h) (ob (mq5 h)) ∧ qP (mq5 h) (ob (mq5 h)) ≤ 19980 := bP_r hL.1
  have m2 := mulB bp.1 bp.2 s.2.2.2.2.1 s.2.2.2.2.2
  have R : ∀ {r : Int}, r = A_base h y1 y2 → (some (vl r) = some (vl (A_base h y1 y2)) ∧ h = h) := fun q => ⟨by rw [q], rfl⟩
  have hA : A_base h y1 y2 = A_base h y1 y2 := rfl
  conv at hA => rhs; unfold A_base
  refine S7_6_0 _ _ ?_
  rw [L.1, L.2.1, L.2.2.1]
  refine ⟨fun q => R ?_, fun q1 => ⟨fun q2 => ⟨fun q => R ?_, fun q3 => ⟨fun q4 => ?_, fun q => R ?_⟩⟩, fun q => R ?_⟩⟩
  · rw [hA, if_neg (by omega)]
  · rw [hA, if_neg (by omega)]
  · rw [if_pos (by omega)] at hA
    unfold B_base at hA
    refine ⟨fun q => R ?_, fun q => ?_⟩
    · rw [hA, if_neg (by omega)]
    · have e3 : h 36 3 = h 97 2 := L.2.2.2.1 q
      rw [e3]
      rw [if_pos q] at hA
      refine ⟨fun q5 => ⟨by unfold R32; omega, by unfold R32; omega, (K45 (by omega) (by omega)).mono fun v h2 _ f => ?_⟩, fun q5 => ⟨by unfold R32; omega, (K45 (by omega) (by omega)).mono fun v h2 _ f => ?_⟩⟩
      · obtain ⟨rfl, rfl⟩ := f
        rw [if_neg q5] at hA
        exact S7_6_87 _ _ _ _ (R hA.symm)
      · obtain ⟨rfl, rfl⟩ := f
        rw [if_pos q5] at hA
        exact S7_6_64 _ _ _ _ (S7_6_87 _ _ _ _ (R hA.symm))
  · rw [hA, if_neg (by omega)]
  · rw [hA, if_neg (by omega)]
theorem M79 {h h1 : HP} (i : Inv h) (e : P h1 = P h) (y1 y2 : Int) : Wp X 4 79 0 [vr 89, vi y1, vi y2] [] h1 (fun r h2 => r = some (vl (B_base h y1 y2)) ∧ Fr fM h1 h2) := by
  have hL := i.lok
  have s := i.sok
  have bm : 0 ≤ qM (mq5 h) (ob (mq5 h)) ∧ qM (mq5 h) (ob (mq5 h)) ≤ 20 := bM_r
  have bs : 0 ≤ qS (mq5 h) (ob (mq5 h)) ∧ qS (mq5 h) (ob (mq5 h)) ≤ 1198800 := bS_r hL.1
  have bp : 0 ≤ qP (mq5 h) (ob (mq5 h)) ∧ qP (mq5 h) (ob (mq5 h)) ≤ 19980 := bP_r hL.1
  have m2 := mulB bp.1 bp.2 s.2.2.2.2.1 s.2.2.2.2.2
  refine S79_89_0 _ _ ((K78 i.tok i.sok e).mono fun v h2 _ f => ?_)
  obtain ⟨rfl, e2, F, vv, B⟩ := f
  have F := F.mo fun _ _ c => fB_M c
  have e3 : h2 97 2 = h 97 2 := congrFun (congrFun e2 97) 2
  have R : ∀ {r : Int}, r = B_base h y1 y2 → (some (vl r) = some (vl (B_base h y1 y2)) ∧ Fr fM h1 h2) := fun q => ⟨by rw [q], F⟩
  have hA : B_base h y1 y2 = B_base h y1 y2 := rfl
  conv at hA => rhs; unfold B_base
  refine S79_89_4 _ _ _ ?_
  rw [B.1, B.2.1, B.2.2.1, e3]
  by_cases c : 0 < qM (mq5 h) (ob (mq5 h))
  · rw [if_pos c] at hA ⊢
    refine ⟨fun _ => ⟨fun q5 => ⟨by unfold R64; omega, by unfold R64; omega, (K61 (by omega) (by omega)).mono fun v h2 _ f => ?_⟩, fun q5 => ⟨by unfold R64; omega, (K61 (by omega) (by omega)).mono fun v h2 _ f => ?_⟩⟩, fun q => absurd q (by decide)⟩
    · obtain ⟨rfl, rfl⟩ := f
      rw [if_neg q5] at hA
      exact S79_89_62 _ _ _ _ (R hA.symm)
    · obtain ⟨rfl, rfl⟩ := f
      rw [if_pos q5] at hA
      exact S79_89_34 _ _ _ _ (S79_89_62 _ _ _ _ (R hA.symm))
  · rw [if_neg c] at hA ⊢
    exact ⟨fun q => absurd rfl q, fun _ => R hA.symm⟩
theorem a7 (y1 y2 : Int) : Ag X Inv 2 7 5 80 vl [vr 6, vi y1, vi y2] [vr 89, vi y1, vi y2] := by
  refine ag_q (fun h => A_base h y1 y2) (fun h i => (C7 i y1 y2).mono fun r h1 _ f => ⟨f.1, q_same i f.2⟩) (fun h h1 i e => ?_)
  have R : ∀ {r : Int}, r = A_base h y1 y2 → (some (vl r) = some (vl (A_base h y1 y2)) ∧ Fr fM h1 h1) := fun q => ⟨by rw [q], Fr.rf⟩
  have R2 : A_base h y1 y2 = if 0 ≤ y1 ∧ y1 ≤ 1 ∧ 0 ≤ y2 ∧ y2 ≤ 1 then B_base h y1 y2 else -9223372036854775806 := rfl
  refine S80_89_0 _ _ ?_
  simp only [lcp_l, lcp_ge, lcp_g, lcp_le]
  refine ⟨fun q => R ?_, fun q1 => ⟨fun q => R ?_, fun q2 => ⟨fun q => R ?_, fun q3 => ⟨fun q => R ?_, fun q4 => (M79 i e y1 y2).mono fun v h2 _ f => ?_⟩⟩⟩⟩
  · rw [R2, if_neg (by omega)]
  · rw [R2, if_neg (by omega)]
  · rw [R2, if_neg (by omega)]
  · rw [R2, if_neg (by omega)]
  · obtain ⟨rfl, F⟩ := f
    refine S80_89_20 _ _ _ _ ⟨?_, F⟩
    rw [R2, if_pos (by omega)]
-- leftOut
def A_left (h : HP) : Int := if 0 < qM (mq5 h) (ob (mq5 h)) then (ob (mq5 h) : Int) else -3
theorem C8 {h : HP} (i : Inv h) : Wp X 1 8 0 [vr 6] [] h (fun r h1 => r = some (vi (A_left h)) ∧ h1 = h) := by
  have L := i.ll
  refine S8_6_0 ?_
  rw [L.1, L.2.2.2.2]
  refine ⟨fun q => ⟨?_, rfl⟩, fun q => ⟨?_, rfl⟩⟩
  · unfold A_left; rw [if_neg (by omega)]
  · unfold A_left; rw [if_pos q]
theorem dr_z {q : LN} : ∀ (n O : Nat), dr q n O = 0 → O = 0
  | 0, _, h => h
  | n + 1, O, h => by
    unfold dr at h
    split at h
    · have := dr_z n _ h
      unfold nxq at this
      have := Nat.le_zero.mp (this ▸ Nat.left_le_or)
      exact this
    · exact h
theorem M81 {h h1 : HP} (i : Inv h) (e : P h1 = P h) : Wp X 4 81 0 [vr 89] [] h1 (fun r h2 => r = some (vi (A_left h)) ∧ Fr fM h1 h2) := by
  refine S81_89_0 ((K78 i.tok i.sok e).mono fun v h2 _ f => ?_)
  obtain ⟨rfl, e2, F, vv, B⟩ := f
  have F := F.mo fun _ _ c => fB_M c
  refine S81_89_4 _ ?_
  rw [B.2.2.2]
  unfold A_left
  by_cases c : 0 < qM (mq5 h) (ob (mq5 h))
  · rw [if_pos c, if_pos c]; exact ⟨fun q => absurd q (by decide), fun _ => ⟨rfl, F⟩⟩
  · rw [if_neg c, if_neg c]; exact ⟨fun _ => ⟨rfl, F⟩, fun q => absurd rfl q⟩
theorem a8 : Ag X Inv 1 8 5 82 vi [vr 6] [vr 89] := by
  refine ag_q A_left (fun h i => (C8 i).mono fun r h1 _ f => ⟨f.1, q_same i f.2⟩) (fun h h1 i e => ?_)
  refine S82_89_0 ((M81 i e).mono fun v h2 _ f => ?_)
  obtain ⟨rfl, F⟩ := f
  exact S82_89_4 _ _ ⟨rfl, F⟩
-- zone
def B_zone (h : HP) (g what : Int) : Int := if 0 < qM (mq5 h) (ob (mq5 h)) ∧ cnp (VL h) g 5 ≠ 0 then (if what = 0 then (if 4 ≤ qsg (mq5 h) g ∧ qsg (mq5 h) g ≤ 7 then 1 else if qsg (mq5 h) g ≤ 3 then 2 else 0) else if what = 1 then zn (qM (mq5 h) (ob (mq5 h))) (qS (mq5 h) (ob (mq5 h))) (qP (mq5 h) (ob (mq5 h))) (h 97 2) (mnV (VL h) g) else if qsg (mq5 h) g = 8 then 4 else qsg (mq5 h) g) else -3
def A_zone (h : HP) (g what : Int) : Int := if 0 ≤ g ∧ g < h 89 5 ∧ 0 ≤ what ∧ what ≤ 2 then B_zone h g what else -2
theorem qsg_r {q : LN} {g : Int} : 0 ≤ qsg q g ∧ qsg q g ≤ 8 := stn_r
theorem qsg_v {q : LN} {g : Int} (hM : 0 < qM q (ob q)) : qsg q g = if mnV q.1 g * qM q (ob q) - qS q (ob q) = 0 then 8 else if 0 < mnV q.1 g * qM q (ob q) - qS q (ob q) then 4 + zn (qM q (ob q)) (qS q (ob q)) (qP q (ob q)) q.2.2.2.2 (mnV q.1 g) else 3 - zn (qM q (ob q)) (qS q (ob q)) (qP q (ob q)) q.2.2.2.2 (mnV q.1 g) := by
  show stn _ _ _ _ _ = _
  unfold stn
  rw [if_neg (by omega)]
theorem zn_0 {M S p rc x : Int} (h : x * M - S = 0) (hs : 0 ≤ p * rc) : zn M S p rc x = 0 := by
  unfold zn zl
  rw [h, show absI 0 = 0 from rfl, if_neg (by omega)]
theorem C9 {h : HP} (i : Inv h) (y1 y2 : Int) : Wp X 3 9 0 [vr 6, vi y1, vi y2, vu] [] h (fun r h1 => r = some (vi (A_zone h y1 y2)) ∧ h1 = h) := by
  have L := i.ll
  have hL := i.lok
  have cv := i.cv
  have g8 := i.g8
  have t := i.tok.1
  have bm : 0 ≤ qM (mq5 h) (ob (mq5 h)) ∧ qM (mq5 h) (ob (mq5 h)) ≤ 20 := bM_r
  have bs : 0 ≤ qS (mq5 h) (ob (mq5 h)) ∧ qS (mq5 h) (ob (mq5 h)) ≤ 1198800 := bS_r hL.1
  have R : ∀ {r : Int}, r = A_zone h y1 y2 → (some (vi r) = some (vi (A_zone h y1 y2)) ∧ h = h) := fun q => ⟨by rw [q], rfl⟩
  have hA : A_zone h y1 y2 = A_zone h y1 y2 := rfl
  conv at hA => rhs; unfold A_zone
  refine S9_6_0 _ _ ⟨fun q => R ?_, fun q1 => ⟨fun q => R ?_, fun q2 => ⟨fun q => R ?_, fun q3 => ⟨fun q4 => ⟨⟨by omega, by omega⟩, ?_⟩, fun q => R ?_⟩⟩⟩⟩
  · rw [hA, if_neg (by omega)]
  · rw [hA, if_neg (by omega)]
  · rw [hA, if_neg (by omega)]
  · have c := cv.1 y1 q1 (by omega)
    have mr := mnV_r hL.1 y1
    have m1 := mulB mr.1 mr.2 bm.1 bm.2
    have m1 : 0 ≤ mnV (VL h) y1 * qM (mq5 h) (ob (mq5 h)) ∧ mnV (VL h) y1 * qM (mq5 h) (ob (mq5 h)) ≤ 59940 * 20 := m1
    rw [if_pos (by omega)] at hA
    unfold B_zone at hA
    rw [c.2.1, L.1, L.2.1]
    by_cases hc : cnp (VL h) y1 5 = 0
    · rw [if_pos hc]
      refine ⟨fun q => absurd rfl q, fun _ => R ?_⟩
      rw [hA, if_neg (fun q => q.2 hc)]
    · rw [if_neg hc]
      refine ⟨fun _ => ⟨fun q => R ?_, fun q5 => ?_⟩, fun q => absurd q (by have : 0 ≤ mnV (VL h) y1 := mr.1; omega)⟩
      · rw [hA, if_neg (fun q => by omega)]
      · rw [if_pos ⟨q5, hc⟩] at hA
        have qv := qsg_v (q := mq5 h) (g := y1) q5
        have zr := zn_r (M := qM (mq5 h) (ob (mq5 h))) (S := qS (mq5 h) (ob (mq5 h))) (p := qP (mq5 h) (ob (mq5 h))) (rc := (mq5 h).2.2.2.2) (x := mnV (mq5 h).1 y1)
        have qv : qsg (mq5 h) y1 = if mnV (VL h) y1 * qM (mq5 h) (ob (mq5 h)) - qS (mq5 h) (ob (mq5 h)) = 0 then 8 else if 0 < mnV (VL h) y1 * qM (mq5 h) (ob (mq5 h)) - qS (mq5 h) (ob (mq5 h)) then 4 + zn (qM (mq5 h) (ob (mq5 h))) (qS (mq5 h) (ob (mq5 h))) (qP (mq5 h) (ob (mq5 h))) (mq5 h).2.2.2.2 (mnV (mq5 h).1 y1) else 3 - zn (qM (mq5 h) (ob (mq5 h))) (qS (mq5 h) (ob (mq5 h))) (qP (mq5 h) (ob (mq5 h))) (mq5 h).2.2.2.2 (mnV (mq5 h).1 y1) := qv
        refine ⟨fun q6 => ⟨fun q7 => (K172 hL (L.up q5) (mnV_r hL.1 y1)).mono fun v h2 _ f => ?_, fun q7 => (K171L hL (L.up q5) (mnV_r hL.1 y1)).mono fun v h2 _ f => ?_⟩, fun q6 => ⟨by unfold R32; omega, by unfold R32; omega, fun q7 => ⟨fun q8 => R ?_, fun q8 => R ?_⟩, fun q7 => R ?_⟩⟩
        · obtain ⟨rfl, rfl⟩ := f
          rw [if_neg q6, if_neg q7] at hA
          refine S9_6_96 _ _ _ _ _ ⟨fun q8 => R ?_, fun q8 => R ?_⟩
          · exact (hA.trans (if_neg (show ¬ qsg (mq5 h2) y1 = 8 from q8))).symm
          · exact (hA.trans (if_pos (show qsg (mq5 h2) y1 = 8 from q8))).symm
        · obtain ⟨rfl, rfl⟩ := f
          rw [if_neg q6, if_pos q7] at hA
          exact S9_6_85 _ _ _ _ _ (R hA.symm)
        · rw [if_neg q8, if_pos (by omega)] at qv
          rw [hA, if_pos q6, if_pos (by omega)]
        · rw [if_pos q8] at qv
          rw [hA, if_pos q6, if_neg (by omega), if_neg (by omega)]
        · rw [if_neg (by omega), if_neg (by omega)] at qv
          rw [hA, if_pos q6, if_neg (by omega), if_pos (by omega)]
  · rw [hA, if_neg (by omega)]
theorem K83s {b h : HP} {g : Int} (T : Tok b) (s : Sok b) (e2 : h 97 2 = (mq5 b).2.2.2.2) (v : VV b h) (B : BB (mq5 b) (ob (mq5 b)) h) (hM : 0 < qM (mq5 b) (ob (mq5 b))) (hg : 0 ≤ g ∧ g < b 89 5) : Wp X 2 83 0 [vr 89, vi g] [] h (fun r h1 => r = some (vi (if qsg (mq5 b) g = 8 then 4 else qsg (mq5 b) g)) ∧ h1 = h) := by
  have hL := mq5_ok T s
  have t := T.1
  have bm : 0 ≤ qM (mq5 b) (ob (mq5 b)) ∧ qM (mq5 b) (ob (mq5 b)) ≤ 20 := bM_r
  have bs : 0 ≤ qS (mq5 b) (ob (mq5 b)) ∧ qS (mq5 b) (ob (mq5 b)) ≤ 1198800 := bS_r hL.1
  have bp : 0 ≤ qP (mq5 b) (ob (mq5 b)) ∧ qP (mq5 b) (ob (mq5 b)) ≤ 19980 := bP_r hL.1
  have m2 := mulB bp.1 bp.2 s.2.2.2.2.1 s.2.2.2.2.2
  have mr := mnV_r hL.1 g
  have m1 := mulB mr.1 mr.2 bm.1 bm.2
  have vg : h 99 g = mnV (mq5 b).1 g := (v.2.1 g hg.1 hg.2).1
  have zr := zn_r (M := qM (mq5 b) (ob (mq5 b))) (S := qS (mq5 b) (ob (mq5 b))) (p := qP (mq5 b) (ob (mq5 b))) (rc := (mq5 b).2.2.2.2) (x := mnV (mq5 b).1 g)
  have z0 := zn_0 (M := qM (mq5 b) (ob (mq5 b))) (S := qS (mq5 b) (ob (mq5 b))) (p := qP (mq5 b) (ob (mq5 b))) (rc := (mq5 b).2.2.2.2) (x := mnV (mq5 b).1 g)
  have k77 := K77 (X := X) hL B e2 ⟨hg.1, by omega⟩ vg
  rw [qsg_v hM]
  refine S83_89_0 _ ?_
  rw [vg, B.1, B.2.1]
  simp only [lcp_l, lcp_ge, lcp_g, lcp_le]
  refine ⟨⟨hg.1, by omega⟩, by unfold R64; omega, by unfold R64; omega, by unfold R64; omega, fun q => ⟨fun q2 => k77.mono fun r h1 _ f => ?_, fun q2 => k77.mono fun r h1 _ f => ?_⟩, fun q => k77.mono fun r h1 _ f => ?_⟩
  · obtain ⟨rfl, rfl⟩ := f
    have q3 : mnV (mq5 b).1 g * qM (mq5 b) (ob (mq5 b)) - qS (mq5 b) (ob (mq5 b)) = 0 := by omega
    refine S83_89_24 _ _ _ _ ⟨by unfold R32; omega, ?_, rfl⟩
    rw [if_pos q3, if_pos rfl, z0 q3 m2.1]
    rfl
  · obtain ⟨rfl, rfl⟩ := f
    refine S83_89_14 _ _ _ _ ⟨by unfold R32; omega, ?_, rfl⟩
    rw [if_neg (by omega), if_neg (by omega), if_neg (by omega)]
  · obtain ⟨rfl, rfl⟩ := f
    refine S83_89_24 _ _ _ _ ⟨by unfold R32; omega, ?_, rfl⟩
    rw [if_neg (by omega), if_neg (by omega), if_pos (by omega)]
theorem K83 {b h : HP} {g : Int} (i : Inv b) (e : P h = P b) (v : VV b h) (B : BB (mq5 b) (ob (mq5 b)) h) (hM : 0 < qM (mq5 b) (ob (mq5 b))) (hg : 0 ≤ g ∧ g < b 89 5) : Wp X 2 83 0 [vr 89, vi g] [] h (fun r h1 => r = some (vi (if qsg (mq5 b) g = 8 then 4 else qsg (mq5 b) g)) ∧ h1 = h) :=
  K83s i.tok i.sok (congrFun (congrFun e 97) 2) v B hM hg
theorem M84 {h h1 : HP} (i : Inv h) (e : P h1 = P h) {y1 y2 : Int} (hg : 0 ≤ y1 ∧ y1 < h 89 5) (hy : 0 ≤ y2 ∧ y2 ≤ 2) : Wp X 4 84 0 [vr 89, vi y1, vi y2] [] h1 (fun r h2 => r = some (vi (B_zone h y1 y2)) ∧ Fr fM h1 h2) := by
  have hL := i.lok
  have s := i.sok
  have t := i.tok.1
  refine S84_89_0 _ _ ((K78 i.tok i.sok e).mono fun v h2 _ f => ?_)
  obtain ⟨rfl, e2, F, vv, B⟩ := f
  have F := F.mo fun _ _ c => fB_M c
  have vg := vv.2.1 y1 hg.1 hg.2
  have R : ∀ {r : Int}, r = B_zone h y1 y2 → (some (vi r) = some (vi (B_zone h y1 y2)) ∧ Fr fM h1 h2) := fun q => ⟨by rw [q], F⟩
  have hA : B_zone h y1 y2 = B_zone h y1 y2 := rfl
  conv at hA => rhs; unfold B_zone
  refine S84_89_4 _ _ _ ?_
  rw [vg.2.2]
  by_cases c : 0 < qM (mq5 h) (ob (mq5 h))
  · rw [if_pos c]
    refine ⟨fun q => absurd q (by decide), fun _ => ⟨⟨hg.1, by omega⟩, ?_⟩⟩
    by_cases hc : cnp (VL h) y1 5 = 0
    · rw [if_pos hc]
      refine ⟨fun q => absurd q (by decide), fun _ => R ?_⟩
      rw [hA, if_neg (fun q => q.2 hc)]
    · rw [if_neg hc]
      rw [if_pos ⟨c, hc⟩] at hA
      have bm : 0 ≤ qM (mq5 h) (ob (mq5 h)) ∧ qM (mq5 h) (ob (mq5 h)) ≤ 20 := bM_r
      have bs : 0 ≤ qS (mq5 h) (ob (mq5 h)) ∧ qS (mq5 h) (ob (mq5 h)) ≤ 1198800 := bS_r hL.1
      have mr := mnV_r hL.1 y1
      have m1 := mulB mr.1 mr.2 bm.1 bm.2
      have m1 : 0 ≤ mnV (VL h) y1 * qM (mq5 h) (ob (mq5 h)) ∧ mnV (VL h) y1 * qM (mq5 h) (ob (mq5 h)) ≤ 59940 * 20 := m1
      have qv := qsg_v (q := mq5 h) (g := y1) c
      have zr := zn_r (M := qM (mq5 h) (ob (mq5 h))) (S := qS (mq5 h) (ob (mq5 h))) (p := qP (mq5 h) (ob (mq5 h))) (rc := (mq5 h).2.2.2.2) (x := mnV (mq5 h).1 y1)
      have qv : qsg (mq5 h) y1 = if mnV (VL h) y1 * qM (mq5 h) (ob (mq5 h)) - qS (mq5 h) (ob (mq5 h)) = 0 then 8 else if 0 < mnV (VL h) y1 * qM (mq5 h) (ob (mq5 h)) - qS (mq5 h) (ob (mq5 h)) then 4 + zn (qM (mq5 h) (ob (mq5 h))) (qS (mq5 h) (ob (mq5 h))) (qP (mq5 h) (ob (mq5 h))) (mq5 h).2.2.2.2 (mnV (mq5 h).1 y1) else 3 - zn (qM (mq5 h) (ob (mq5 h))) (qS (mq5 h) (ob (mq5 h))) (qP (mq5 h) (ob (mq5 h))) (mq5 h).2.2.2.2 (mnV (mq5 h).1 y1) := qv
      have e2' : h2 97 2 = (mq5 h).2.2.2.2 := congrFun (congrFun e2 97) 2
      refine ⟨fun _ => ⟨fun q6 => ⟨fun q7 => ?_, fun q7 => (K77 hL B e2' ⟨hg.1, by omega⟩ vg.1).mono fun r h3 _ f => ?_⟩, fun q6 => (K83 i e2 vv B c hg).mono fun r h3 _ f => ?_⟩, fun q => absurd rfl q⟩
      · rw [vg.1, B.1, B.2.1]
        simp only [lcp_l, lcp_ge, lcp_g, lcp_le]
        refine ⟨by unfold R64; omega, by unfold R64; omega, by unfold R64; omega, fun q8 => ⟨fun q9 => R ?_, fun q9 => R ?_⟩, fun q8 => R ?_⟩
        · rw [if_pos (by omega)] at qv
          rw [hA, if_pos (by omega), if_neg (by omega), if_neg (by omega)]
        · rw [if_neg (by omega), if_neg (by omega)] at qv
          rw [hA, if_pos (by omega), if_neg (by omega), if_pos (by omega)]
        · rw [if_neg (by omega), if_pos (by omega)] at qv
          rw [hA, if_pos (by omega), if_pos (by omega)]
      · obtain ⟨rfl, rfl⟩ := f
        rw [if_neg (by omega), if_pos q7] at hA
        exact S84_89_42 _ _ _ _ (R hA.symm)
      · obtain ⟨rfl, rfl⟩ := f
        rw [if_neg (by omega), if_neg (by omega)] at hA
        exact S84_89_29 _ _ _ _ (R hA.symm)
  · rw [if_neg c]
    refine ⟨fun _ => R ?_, fun q => absurd rfl q⟩
    rw [hA, if_neg (fun q => c q.1)]
end
