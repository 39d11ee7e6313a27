-- ===== warns agrees =====
section
variable {X : Nat × (Int → Int)}
theorem K98 {h : HP} {l : List Int} (ar : Ar (h 102) l) (e : h 89 16 = l.length) (hl : l.length ≤ 20) : Wp X 0 98 0 [vr 89, vu] [] h (fun v h' => v = none ∧ Fr (fun a _ => a = 109) h h' ∧ Ar (h' 109) l) := by
  have L : ∀ (k n : Nat) (h1 : HP), n + k = l.length → Fr (fun a _ => a = 109) h h1 → (∀ q : Nat, q < n → h1 109 q = l.getD q 0) → Wp X 0 98 2 [vr 89, vi n] [] h1 (fun v h' => v = none ∧ Fr (fun a _ => a = 109) h h' ∧ Ar (h' 109) l) := by
    intro k
    induction k with
    | zero =>
      intro n h1 hn F q
      have e : h1 89 16 = l.length := (F _ _ (by omega)).trans e
      exact S98_89_2 _ ⟨fun _ => ⟨rfl, F, fun i hi => q i (by omega)⟩, fun c => absurd c (by omega)⟩
    | succ k ih =>
      intro n h1 hn F q
      have e : h1 89 16 = l.length := (F _ _ (by omega)).trans e
      have e2 : h1 102 (n : Int) = l.getD n 0 := (F _ _ (by omega)).trans (ar n (by omega))
      refine S98_89_2 _ ⟨fun c => absurd c (by omega), fun _ => ⟨⟨by omega, by omega⟩, ?_⟩⟩
      rw [e2]
      refine ih (n + 1) (upd2 h1 109 n (l.getD n 0)) (by omega) (F.up rfl) (fun p hp => ?_)
      rw [upd2_at]
      by_cases w : p = n
      · rw [if_pos (by omega), w]
      · rw [if_neg (by omega)]; exact q p (by omega)
  exact S98_89_0 (L l.length 0 h (by omega) Fr.rf (fun q hq => absurd hq (Nat.not_lt_zero q)))
def wby (h : HP) (t : Int) (l : List Int) (p : Nat) : Nat := bys (RTi (Wt h t) (mnV (VL h)) (qsg (mq5 h)) l p) (NRu (Wt h t) (h 104 t))
def B_warns (h : HP) (t g : Int) : Int := if B_fault h t = -1 ∧ 0 < qM (mq5 h) (ob (mq5 h)) ∧ cnp (VL h) g 5 ≠ 0 then (wby h t (rwl (VL h) (gn h)) (plc (rwl (VL h) (gn h)) g) : Int) else -3
def A_warns (h : HP) (t g : Int) : Int := if 0 ≤ t ∧ t ≤ 1 ∧ 0 ≤ g ∧ g < h 89 5 then B_warns h t g else -2
theorem C13 {h : HP} (i : Inv h) (t g : Int) : Wp X 4 13 0 [vr 6, vi t, vi g] [] h (fun r h1 => r = some (vi (A_warns h t g)) ∧ h1 = h) := by
  have x := i.1.2.2.2.1
  have L := i.ll
  have cv := i.cv
  have g8 := i.g8
  have tk := i.tok.1
  have hA : A_warns h t g = if 0 ≤ t ∧ t ≤ 1 ∧ 0 ≤ g ∧ g < h 89 5 then B_warns h t g else -2 := rfl
  have hB : B_warns h t g = if B_fault h t = -1 ∧ 0 < qM (mq5 h) (ob (mq5 h)) ∧ cnp (VL h) g 5 ≠ 0 then (wby h t (rwl (VL h) (gn h)) (plc (rwl (VL h) (gn h)) g) : Int) else -3 := rfl
  have k45 : t = 0 → 0 ≤ g → g < h 89 5 → (((h 45 6) ≠ (-1) → (some (vi (-3)) = some (vi (A_warns h t g)) ∧ h = h)) ∧ ((h 45 6) = (-1) → (((h 36 0) ≤ 0 → (some (vi (-3)) = some (vi (A_warns h t g)) ∧ h = h)) ∧ (0 < (h 36 0) → ((0 ≤ g ∧ g < 20) ∧ (((h 34 g) ≠ (-1) → Wp X 0 195 0 [vr 37, vi g, vu] [] h (fun v h' => Wp X 4 13 63 [vr 6, vi 0, vi g] (psh v [vr 37, vr 45]) h' (fun r h1 => r = some (vi (A_warns h t g)) ∧ h1 = h))) ∧ ((h 34 g) = (-1) → (some (vi (-3)) = some (vi (A_warns h t g)) ∧ h = h)))))))) := by
    intro tt g0 g1
    have c := (cv.1 g g0 g1).2.1
    have mr := mnV_r (VL_ok i.tok) g
    have td : I_txt 45 0 h := by first | exact x.2.1 | exact x.2.2
    rw [if_pos (show 0 ≤ t ∧ t ≤ 1 ∧ 0 ≤ g ∧ g < h 89 5 by omega)] at hA
    have ef : h 45 6 = B_fault h t := by rw [tt]; exact td.2.2.1
    rw [ef, L.1, c]
    refine ⟨fun q => ⟨by rw [hA, hB, if_neg (fun w => q w.1)], rfl⟩, fun q1 => ⟨fun q => ⟨by rw [hA, hB, if_neg (fun w => by omega)], rfl⟩, fun q2 => ⟨⟨by omega, by omega⟩, ?_⟩⟩⟩
    by_cases hc : cnp (VL h) g 5 = 0
    · rw [if_pos hc]
      exact ⟨fun q => absurd rfl q, fun _ => ⟨by rw [hA, hB, if_neg (fun w => w.2.2 hc)], rfl⟩⟩
    · rw [if_neg hc]
      have hg : g ∈ rwl (VL h) (gn h) := i.rowm.mpr ⟨g0, g1, hc⟩
      have pl := plc_lt hg
      have ff := td.2.2.2 (by rw [tt] at q1; exact q1)
      rw [if_pos ⟨q1, q2, hc⟩] at hB
      refine ⟨fun _ => (K195 i.row hg).mono fun v h2 _ f => ?_, fun q => absurd q (by omega)⟩
      obtain ⟨rfl, rfl⟩ := f
      first
        | refine S13_6_63a _ _ _ _ ((K209_45 NRu_ok ff.1 ff.2 i.row (fun _ => qsg_r) pl.1).mono fun v h3 _ f => ?_)
        | refine S13_6_63b _ _ _ _ ((K209_45 NRu_ok ff.1 ff.2 i.row (fun _ => qsg_r) pl.1).mono fun v h3 _ f => ?_)
      obtain ⟨rfl, rfl⟩ := f
      refine S13_6_66 _ _ _ _ ⟨?_, rfl⟩
      rw [hA, hB, tt]; rfl
  have k53 : t = 1 → 0 ≤ g → g < h 89 5 → (((h 53 6) ≠ (-1) → (some (vi (-3)) = some (vi (A_warns h t g)) ∧ h = h)) ∧ ((h 53 6) = (-1) → (((h 36 0) ≤ 0 → (some (vi (-3)) = some (vi (A_warns h t g)) ∧ h = h)) ∧ (0 < (h 36 0) → ((0 ≤ g ∧ g < 20) ∧ (((h 34 g) ≠ (-1) → Wp X 0 195 0 [vr 37, vi g, vu] [] h (fun v h' => Wp X 4 13 63 [vr 6, vi 1, vi g] (psh v [vr 37, vr 53]) h' (fun r h1 => r = some (vi (A_warns h t g)) ∧ h1 = h))) ∧ ((h 34 g) = (-1) → (some (vi (-3)) = some (vi (A_warns h t g)) ∧ h = h)))))))) := by
    intro tt g0 g1
    have c := (cv.1 g g0 g1).2.1
    have mr := mnV_r (VL_ok i.tok) g
    have td : I_txt 53 1 h := by first | exact x.2.1 | exact x.2.2
    rw [if_pos (show 0 ≤ t ∧ t ≤ 1 ∧ 0 ≤ g ∧ g < h 89 5 by omega)] at hA
    have ef : h 53 6 = B_fault h t := by rw [tt]; exact td.2.2.1
    rw [ef, L.1, c]
    refine ⟨fun q => ⟨by rw [hA, hB, if_neg (fun w => q w.1)], rfl⟩, fun q1 => ⟨fun q => ⟨by rw [hA, hB, if_neg (fun w => by omega)], rfl⟩, fun q2 => ⟨⟨by omega, by omega⟩, ?_⟩⟩⟩
    by_cases hc : cnp (VL h) g 5 = 0
    · rw [if_pos hc]
      exact ⟨fun q => absurd rfl q, fun _ => ⟨by rw [hA, hB, if_neg (fun w => w.2.2 hc)], rfl⟩⟩
    · rw [if_neg hc]
      have hg : g ∈ rwl (VL h) (gn h) := i.rowm.mpr ⟨g0, g1, hc⟩
      have pl := plc_lt hg
      have ff := td.2.2.2 (by rw [tt] at q1; exact q1)
      rw [if_pos ⟨q1, q2, hc⟩] at hB
      refine ⟨fun _ => (K195 i.row hg).mono fun v h2 _ f => ?_, fun q => absurd q (by omega)⟩
      obtain ⟨rfl, rfl⟩ := f
      first
        | refine S13_6_63a _ _ _ _ ((K209_53 NRu_ok ff.1 ff.2 i.row (fun _ => qsg_r) pl.1).mono fun v h3 _ f => ?_)
        | refine S13_6_63b _ _ _ _ ((K209_53 NRu_ok ff.1 ff.2 i.row (fun _ => qsg_r) pl.1).mono fun v h3 _ f => ?_)
      obtain ⟨rfl, rfl⟩ := f
      refine S13_6_66 _ _ _ _ ⟨?_, rfl⟩
      rw [hA, hB, tt]; rfl
  have bad : ¬ (0 ≤ t ∧ t ≤ 1 ∧ 0 ≤ g ∧ g < h 89 5) → (some (vi (-2)) = some (vi (A_warns h t g)) ∧ h = h) := fun q => ⟨by rw [hA, if_neg q], rfl⟩
  exact S13_6_0 _ _ ⟨fun q => bad (by omega), fun t0 => ⟨fun t1 => ⟨fun q => bad (by omega), fun g0 => ⟨fun q => bad (by omega), fun g1 => ⟨fun a => k45 a g0 (by omega), fun a => k53 a g0 (by omega)⟩⟩⟩, fun q => bad (by omega)⟩⟩
theorem M100 {h h1 : HP} (i : Inv h) (e : P h1 = P h) {t g : Int} (ht : 0 ≤ t ∧ t < 2) (hg : 0 ≤ g ∧ g < h 89 5) : Wp X 4 100 0 [vr 89, vi t, vi g] [] h1 (fun r h2 => r = some (vi (B_warns h t g)) ∧ Fr fM h1 h2) := by
  have hL := i.lok
  have tk := i.tok.1
  have gl : ((gn h : Nat) : Int) = h 89 5 := by unfold gn; omega
  have hl : (rwl (VL h) (gn h)).length ≤ 20 := Nat.le_trans (rwl_len (V := VL h) (gn h)) (by omega)
  have hB : B_warns h t g = if B_fault h t = -1 ∧ 0 < qM (mq5 h) (ob (mq5 h)) ∧ cnp (VL h) g 5 ≠ 0 then (wby h t (rwl (VL h) (gn h)) (plc (rwl (VL h) (gn h)) g) : Int) else -3 := rfl
  refine S100_89_0 _ _ ((K92 ht i.1.2.2.2.1.1 rfl rfl e).mono fun v h2 _ f => ?_)
  obtain ⟨rfl, e2, F2, ms⟩ := f
  have F2 : Fr fM h1 h2 := F2.mo fun _ _ c => fRd_M c
  have ms : B_fault h t = -1 → _ := ms
  have ef : FA (Wt h t) (h 104 t) = B_fault h t := rfl
  rw [ef]
  refine S100_89_5 _ _ _ ⟨fun q => ⟨by rw [hB, if_neg (fun w => q w.1)], F2⟩, fun q1 => (K78 i.tok i.sok e2).mono fun v h3 _ f => ?_⟩
  have ms := ms q1
  obtain ⟨rfl, e3, F3, vv, B⟩ := f
  have m3 : MS h3 (Wt h t) (NRu (Wt h t) (h 104 t)) := ms.1.fr F3 (by unfold fB; omega) (fun a j a1 a2 => by unfold fB; omega)
  have F := F2.tr (F3.mo fun _ _ c => fB_M c)
  clear F2 F3
  have vg := (vv.2.1 g hg.1 hg.2).2.2
  refine S100_89_13 _ _ _ ?_
  rw [vg]
  by_cases c : 0 < qM (mq5 h) (ob (mq5 h))
  · rw [if_pos c]
    refine ⟨fun q => absurd q (by decide), fun _ => ⟨⟨hg.1, by omega⟩, ?_⟩⟩
    by_cases hc : cnp (VL h) g 5 = 0
    · rw [if_pos hc]
      exact ⟨fun q => absurd q (by decide), fun _ => ⟨by rw [hB, if_neg (fun w => w.2.2 hc)], F⟩⟩
    · rw [if_neg hc]
      have hgm : g ∈ rwl (VL h) (gn h) := i.rowm.mpr ⟨hg.1, hg.2, hc⟩
      have pl := plc_lt hgm
      rw [if_pos ⟨q1, c, hc⟩] at hB
      refine ⟨fun _ => (K98 vv.2.2.1 vv.2.2.2 hl).mono fun v h4 _ f => ?_, fun q => absurd rfl q⟩
      obtain ⟨rfl, F4, a9⟩ := f
      have vv4 : VV h h4 := vv.fr F4 (by omega) (fun a j a1 a2 => by omega)
      have m4 := m3.fr F4 (by omega) (fun a j a1 a2 => by omega)
      have B4 : BB (mq5 h) (ob (mq5 h)) h4 := ⟨(F4 _ _ (by omega)).trans B.1, (F4 _ _ (by omega)).trans B.2.1, (F4 _ _ (by omega)).trans B.2.2.1, (F4 _ _ (by omega)).trans B.2.2.2⟩
      have e4 : P h4 = P h := (F4.toP (fun a j c => by unfold scr; omega)).trans e3
      have F := F.tr (F4.mo fun a j c => by unfold fM scr; omega)
      refine S100_89_32 _ _ ((K99 vv4.2.2.1 hl hgm).mono fun v h5 _ f => ?_)
      obtain ⟨rfl, rfl⟩ := f
      have lk : LKd h h5 (rwl (VL h) (gn h)) := ⟨a9, hl, fun x hx => by have := rwl_mem.mp hx; omega⟩
      refine S100_89_38 _ _ _ _ ((K97 i.tok i.sok e4 vv4 B4 c lk m4 ms.2.1 ms.2.2 pl.1).mono fun v h6 _ f => ?_)
      obtain ⟨rfl, rfl⟩ := f
      refine S100_89_41 _ _ _ _ ⟨?_, F⟩
      rw [hB]; rfl
  · rw [if_neg c]
    exact ⟨fun _ => ⟨by rw [hB, if_neg (fun w => c w.2.1)], F⟩, fun q => absurd rfl q⟩
theorem a13 (t g : Int) : Ag X Inv 4 13 5 101 vi [vr 6, vi t, vi g] [vr 89, vi t, vi g] := by
  refine ag_q (fun h => A_warns h t g) (fun h i => (C13 i t g).mono fun r h1 _ f => ⟨f.1, q_same i f.2⟩) (fun h h1 i e => ?_)
  have tk := i.tok.1
  have hA : A_warns h t g = if 0 ≤ t ∧ t ≤ 1 ∧ 0 ≤ g ∧ g < h 89 5 then B_warns h t g else -2 := rfl
  have g5 : h1 89 5 = h 89 5 := congrFun (congrFun e 89) 5
  have bad : ¬ (0 ≤ t ∧ t ≤ 1 ∧ 0 ≤ g ∧ g < h 89 5) → (some (vi (-2)) = some (vi (A_warns h t g)) ∧ Fr fM h1 h1) := fun q => ⟨by rw [hA, if_neg q], Fr.rf⟩
  refine S101_89_0 _ _ ?_
  rw [g5]
  simp only [lcp_l, lcp_ge, lcp_g, lcp_le]
  refine ⟨fun q => bad (by omega), fun t0 => ⟨fun q => bad (by omega), fun t1 => ⟨by unfold R32; omega, fun q => bad (by omega), fun g0 => ⟨fun q => bad (by omega), fun g1 => (M100 i e ⟨t0, by omega⟩ ⟨g0, by omega⟩).mono fun r h2 _ f => ?_⟩⟩⟩⟩
  obtain ⟨rfl, F⟩ := f
  refine S101_89_21 _ _ _ _ ⟨?_, F⟩
  rw [hA, if_pos (by omega)]
end
