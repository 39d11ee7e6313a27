-- ===== the model's warned =====
def B_wrnd (h : HP) (t what : Int) : Int := if B_fault h t = -1 ∧ 0 < qM (mq5 h) (ob (mq5 h)) then (if what = 0 then wff h t (rwl (VL h) (gn h)) (rwl (VL h) (gn h)).length 0 else if what = 1 then wcn h t (rwl (VL h) (gn h)) (rwl (VL h) (gn h)).length else B_chance h t (rwl (VL h) (gn h)) (wcn h t (rwl (VL h) (gn h)) (rwl (VL h) (gn h)).length)) else -3
def A_wrnd (h : HP) (t what : Int) : Int := if 0 ≤ t ∧ t ≤ 1 ∧ 0 ≤ what ∧ what ≤ 2 then B_wrnd h t what else -2
section
variable {X : Nat × (Int → Int)}
theorem M106 {h h1 : HP} (i : Inv h) (e : P h1 = P h) {t what : Int} (ht : 0 ≤ t ∧ t < 2) (hw : 0 ≤ what ∧ what ≤ 2) : Wp X 6 106 0 [vr 89, vi t, vi what, vu] [] h1 (fun r h2 => r = some (vi (B_wrnd h t what)) ∧ Fr fM h1 h2) := by
  have tk := i.tok.1
  have gl : ((gn h : Nat) : Int) = h 89 5 := by unfold gn; omega
  have hl : (rwl (VL h) (gn h)).length ≤ 20 := Nat.le_trans (rwl_len (V := VL h) (gn h)) (by omega)
  have hB : B_wrnd h t what = if B_fault h t = -1 ∧ 0 < qM (mq5 h) (ob (mq5 h)) then (if what = 0 then wff h t (rwl (VL h) (gn h)) (rwl (VL h) (gn h)).length 0 else if what = 1 then wcn h t (rwl (VL h) (gn h)) (rwl (VL h) (gn h)).length else B_chance h t (rwl (VL h) (gn h)) (wcn h t (rwl (VL h) (gn h)) (rwl (VL h) (gn h)).length)) else -3 := rfl
  refine S106_89_0 _ _ ((K92 ht i.1.2.2.2.1.1 rfl rfl e).mono fun v h2 _ f => ?_)
  obtain ⟨rfl, e2, F2, ms⟩ := f
  have F2 : Fr fM h1 h2 := F2.mo fun _ _ c => fRd_M c
  have ms : B_fault h t = -1 → _ := ms
  have ef : FA (Wt h t) (h 104 t) = B_fault h t := rfl
  rw [ef]
  refine S106_89_5 _ _ _ ⟨fun q => ⟨by rw [hB, if_neg (fun w => q w.1)], F2⟩, fun q1 => (K78 i.tok i.sok e2).mono fun v h3 _ f => ?_⟩
  have ms := ms q1
  obtain ⟨rfl, e3, F3, vv, B⟩ := f
  have m3 : MS h3 (Wt h t) (NRu (Wt h t) (h 104 t)) := ms.1.fr F3 (by unfold fB; omega) (fun a j a1 a2 => by unfold fB; omega)
  have F := F2.tr (F3.mo fun _ _ c => fB_M c)
  clear F2 F3
  refine S106_89_13 _ _ _ ?_
  by_cases c : 0 < qM (mq5 h) (ob (mq5 h))
  · rw [if_pos c]
    rw [if_pos ⟨q1, c⟩] at hB
    refine ⟨fun _ => (K98 vv.2.2.1 vv.2.2.2 hl).mono fun v h4 _ f => ?_, fun q => absurd q (by decide)⟩
    obtain ⟨rfl, F4, a9⟩ := f
    have vv4 : VV h h4 := vv.fr F4 (by omega) (fun a j a1 a2 => by omega)
    have m4 := m3.fr F4 (by omega) (fun a j a1 a2 => by omega)
    have B4 : BB (mq5 h) (ob (mq5 h)) h4 := ⟨(F4 _ _ (by omega)).trans B.1, (F4 _ _ (by omega)).trans B.2.1, (F4 _ _ (by omega)).trans B.2.2.1, (F4 _ _ (by omega)).trans B.2.2.2⟩
    have e4 : P h4 = P h := (F4.toP (fun a j c => by unfold scr; omega)).trans e3
    have F := F.tr (F4.mo fun a j c => by unfold fM scr; omega)
    have lk : LKd h h4 (rwl (VL h) (gn h)) := ⟨a9, hl, fun x hx => by have := rwl_mem.mp hx; omega⟩
    refine S106_89_23 _ _ ⟨fun n0 => (K102 i e4 vv4 B4 c lk m4 vv4.2.2.2).mono fun v h5 _ f => ?_, fun w0 => (K106_29 i e4 vv4 B4 c lk m4).mono fun v h5 _ f => ?_⟩
    · obtain ⟨rfl, rfl⟩ := f
      refine S106_89_64 _ _ _ ⟨fun n1 => (K105 i e4 vv4 B4 c rfl m4).mono fun v h6 _ f => ?_, fun w1 => S106_89_79 _ _ _ _ _ ⟨by rw [hB, if_neg n0, if_pos w1], F⟩⟩
      obtain ⟨rfl, F6⟩ := f
      exact S106_89_79 _ _ _ _ _ ⟨by rw [hB, if_neg n0, if_neg n1], F.tr (F6.mo fun a j c => by unfold fM scr; omega)⟩
    · obtain ⟨rfl, rfl⟩ := f
      exact ⟨by rw [hB, if_pos w0], F⟩
  · rw [if_neg c]
    exact ⟨fun q => absurd rfl q, fun _ => ⟨by rw [hB, if_neg (fun w => c w.2)], F⟩⟩
theorem M107 {h h1 : HP} (i : Inv h) (e : P h1 = P h) {t what : Int} : Wp X 7 107 0 [vr 89, vi t, vi what] [] h1 (fun r h2 => r = some (vi (A_wrnd h t what)) ∧ Fr fM h1 h2) := by
  have hA : A_wrnd h t what = if 0 ≤ t ∧ t ≤ 1 ∧ 0 ≤ what ∧ what ≤ 2 then B_wrnd h t what else -2 := rfl
  have bad : ¬ (0 ≤ t ∧ t ≤ 1 ∧ 0 ≤ what ∧ what ≤ 2) → (some (vi (-2)) = some (vi (A_wrnd h t what)) ∧ Fr fM h1 h1) := fun q => ⟨by rw [hA, if_neg q], Fr.rf⟩
  refine T107_89_0 _ _ ⟨fun q => bad (by omega), fun t0 => ⟨fun q => bad (by omega), fun t1 => ⟨fun q => bad (by omega), fun w0 => ⟨fun q => bad (by omega), fun w2 => (M106 i e ⟨t0, by omega⟩ ⟨w0, w2⟩).mono fun r h2 _ f => ?_⟩⟩⟩⟩
  obtain ⟨rfl, F⟩ := f
  refine S107_89_25 _ _ _ _ ⟨?_, F⟩
  rw [hA, if_pos ⟨t0, t1, w0, w2⟩]
/-- what the class's chance owes -/
def K184p (X : Nat × (Int → Int)) (h : HP) : Prop := (∀ least : Int, 0 ≤ least → least ≤ 20 → B_fault h 0 = -1 → 0 < qM (mq5 h) (ob (mq5 h)) → (rwl (VL h) (gn h)).length ≤ 7 → Wp X 14 184 0 [vr 61, vr 45, vi least, vu] [] h (fun v h1 => v = some (vi (B_chance h 0 (rwl (VL h) (gn h)) least)) ∧ P h1 = P h ∧ NT h1)) ∧ (∀ least : Int, 0 ≤ least → least ≤ 20 → B_fault h 1 = -1 → 0 < qM (mq5 h) (ob (mq5 h)) → (rwl (VL h) (gn h)).length ≤ 7 → Wp X 14 184 0 [vr 61, vr 53, vi least, vu] [] h (fun v h1 => v = some (vi (B_chance h 1 (rwl (VL h) (gn h)) least)) ∧ P h1 = P h ∧ NT h1))
theorem C14 {h : HP} (i : Inv h) (k4 : K184p X h) (t what : Int) : Wp X 15 14 0 [vr 6, vi t, vi what] [] h (fun r h1 => r = some (vi (A_wrnd h t what)) ∧ P h1 = P h ∧ NT h1) := by
  have x := i.1.2.2.2.1
  have L := i.ll
  have r6 := i.row.1
  have hA : A_wrnd h t what = if 0 ≤ t ∧ t ≤ 1 ∧ 0 ≤ what ∧ what ≤ 2 then B_wrnd h t what else -2 := rfl
  have hB : B_wrnd h t what = if B_fault h t = -1 ∧ 0 < qM (mq5 h) (ob (mq5 h)) then (if what = 0 then wff h t (rwl (VL h) (gn h)) (rwl (VL h) (gn h)).length 0 else if what = 1 then wcn h t (rwl (VL h) (gn h)) (rwl (VL h) (gn h)).length else B_chance h t (rwl (VL h) (gn h)) (wcn h t (rwl (VL h) (gn h)) (rwl (VL h) (gn h)).length)) else -3 := rfl
  have hC : 7 < (rwl (VL h) (gn h)).length → ∀ t least, B_chance h t (rwl (VL h) (gn h)) least = -4 := fun q t least => by unfold B_chance; rw [if_neg (by omega)]
  have R : ∀ {rr : Int}, rr = A_wrnd h t what → (some (vi rr) = some (vi (A_wrnd h t what)) ∧ P h = P h ∧ NT h) := fun q => ⟨by rw [q], rfl, i.2⟩
  have bad : ¬ (0 ≤ t ∧ t ≤ 1 ∧ 0 ≤ what ∧ what ≤ 2) → (some (vi (-2)) = some (vi (A_wrnd h t what)) ∧ P h = P h ∧ NT h) := fun q => R (by rw [hA, if_neg q])
  have k45 : t = 0 → 0 ≤ what → what ≤ 2 → (((h 45 6) ≠ (-1) → (some (vi (-3)) = some (vi (A_wrnd h t what)) ∧ P h = P h ∧ NT h)) ∧ ((h 45 6) = (-1) → (((h 36 0) ≤ 0 → (some (vi (-3)) = some (vi (A_wrnd h t what)) ∧ P h = P h ∧ NT h)) ∧ (0 < (h 36 0) → ((what ≠ 0 → ((what ≠ 1 → (((h 37 6) ≤ 7 → Wp X 4 35 0 [vr 6, vr 45, vu, vu] [] h (fun v h' => Wp X 15 14 98 [vr 6, vi 0, vi what] (psh v [vr 45, vr 61]) h' (fun r h1 => r = some (vi (A_wrnd h t what)) ∧ P h1 = P h ∧ NT h1))) ∧ (7 < (h 37 6) → (some (vi (-4)) = some (vi (A_wrnd h t what)) ∧ P h = P h ∧ NT h)))) ∧ (what = 1 → Wp X 4 35 0 [vr 6, vr 45, vu, vu] [] h (fun v h' => Wp X 15 14 62 [vr 6, vi 0, vi what] (psh v []) h' (fun r h1 => r = some (vi (A_wrnd h t what)) ∧ P h1 = P h ∧ NT h1))))) ∧ (what = 0 → Wp X 4 34 0 [vr 6, vr 45, vu] [] h (fun v h' => Wp X 15 14 46 [vr 6, vi 0, vi what] (psh v []) h' (fun r h1 => r = some (vi (A_wrnd h t what)) ∧ P h1 = P h ∧ NT h1)))))))) := by
    intro tt w0 w2
    have td : I_txt 45 0 h := by first | exact x.2.1 | exact x.2.2
    rw [if_pos (show 0 ≤ t ∧ t ≤ 1 ∧ 0 ≤ what ∧ what ≤ 2 by omega)] at hA
    have ef : h 45 6 = B_fault h 0 := td.2.2.1
    subst tt
    rw [ef, L.1, r6]
    refine ⟨fun q => R (by rw [hA, hB, if_neg (fun w => q w.1)]), fun q1 => ⟨fun q => R (by rw [hA, hB, if_neg (fun w => by omega)]), fun q2 => ?_⟩⟩
    rw [if_pos ⟨q1, q2⟩] at hB
    refine ⟨fun n0 => ⟨fun n1 => ⟨fun q7 => (K35_45 i q1).mono fun v h2 _ f => ?_, fun q7 => R ?_⟩, fun w1 => (K35_45 i q1).mono fun v h2 _ f => ?_⟩, fun wz => (K34_45 i q1).mono fun v h2 _ f => ?_⟩
    · obtain ⟨rfl, rfl⟩ := f
      have wr := wcn_r (h := h2) (t := 0) (l := rwl (VL h2) (gn h2)) (rwl (VL h2) (gn h2)).length
      have kk := fun least hl hl2 => by first | exact k4.1 least hl hl2 q1 q2 (by omega) | exact k4.2 least hl hl2 q1 q2 (by omega)
      refine S14_6_98a _ _ _ _ ((kk _ wr.1 (by omega)).mono fun v h3 _ f => ?_)
      obtain ⟨rfl, e3, nt⟩ := f
      refine S14_6_101 _ _ _ _ ⟨?_, e3, nt⟩
      rw [hA, hB, if_neg n0, if_neg n1]
    · rw [hA, hB, if_neg n0, if_neg n1, hC (by omega)]
    · obtain ⟨rfl, rfl⟩ := f
      refine S14_6_62 _ _ _ _ (R ?_)
      rw [hA, hB, if_neg n0, if_pos w1]
    · obtain ⟨rfl, rfl⟩ := f
      refine S14_6_46 _ _ _ _ (R ?_)
      rw [hA, hB, if_pos wz]
  have k53 : t = 1 → 0 ≤ what → what ≤ 2 → (((h 53 6) ≠ (-1) → (some (vi (-3)) = some (vi (A_wrnd h t what)) ∧ P h = P h ∧ NT h)) ∧ ((h 53 6) = (-1) → (((h 36 0) ≤ 0 → (some (vi (-3)) = some (vi (A_wrnd h t what)) ∧ P h = P h ∧ NT h)) ∧ (0 < (h 36 0) → ((what ≠ 0 → ((what ≠ 1 → (((h 37 6) ≤ 7 → Wp X 4 35 0 [vr 6, vr 53, vu, vu] [] h (fun v h' => Wp X 15 14 98 [vr 6, vi 1, vi what] (psh v [vr 53, vr 61]) h' (fun r h1 => r = some (vi (A_wrnd h t what)) ∧ P h1 = P h ∧ NT h1))) ∧ (7 < (h 37 6) → (some (vi (-4)) = some (vi (A_wrnd h t what)) ∧ P h = P h ∧ NT h)))) ∧ (what = 1 → Wp X 4 35 0 [vr 6, vr 53, vu, vu] [] h (fun v h' => Wp X 15 14 62 [vr 6, vi 1, vi what] (psh v []) h' (fun r h1 => r = some (vi (A_wrnd h t what)) ∧ P h1 = P h ∧ NT h1))))) ∧ (what = 0 → Wp X 4 34 0 [vr 6, vr 53, vu] [] h (fun v h' => Wp X 15 14 46 [vr 6, vi 1, vi what] (psh v []) h' (fun r h1 => r = some (vi (A_wrnd h t what)) ∧ P h1 = P h ∧ NT h1)))))))) := by
    intro tt w0 w2
    have td : I_txt 53 1 h := by first | exact x.2.1 | exact x.2.2
    rw [if_pos (show 0 ≤ t ∧ t ≤ 1 ∧ 0 ≤ what ∧ what ≤ 2 by omega)] at hA
    have ef : h 53 6 = B_fault h 1 := td.2.2.1
    subst tt
    rw [ef, L.1, r6]
    refine ⟨fun q => R (by rw [hA, hB, if_neg (fun w => q w.1)]), fun q1 => ⟨fun q => R (by rw [hA, hB, if_neg (fun w => by omega)]), fun q2 => ?_⟩⟩
    rw [if_pos ⟨q1, q2⟩] at hB
    refine ⟨fun n0 => ⟨fun n1 => ⟨fun q7 => (K35_53 i q1).mono fun v h2 _ f => ?_, fun q7 => R ?_⟩, fun w1 => (K35_53 i q1).mono fun v h2 _ f => ?_⟩, fun wz => (K34_53 i q1).mono fun v h2 _ f => ?_⟩
    · obtain ⟨rfl, rfl⟩ := f
      have wr := wcn_r (h := h2) (t := 1) (l := rwl (VL h2) (gn h2)) (rwl (VL h2) (gn h2)).length
      have kk := fun least hl hl2 => by first | exact k4.1 least hl hl2 q1 q2 (by omega) | exact k4.2 least hl hl2 q1 q2 (by omega)
      refine S14_6_98b _ _ _ _ ((kk _ wr.1 (by omega)).mono fun v h3 _ f => ?_)
      obtain ⟨rfl, e3, nt⟩ := f
      refine S14_6_101 _ _ _ _ ⟨?_, e3, nt⟩
      rw [hA, hB, if_neg n0, if_neg n1]
    · rw [hA, hB, if_neg n0, if_neg n1, hC (by omega)]
    · obtain ⟨rfl, rfl⟩ := f
      refine S14_6_62 _ _ _ _ (R ?_)
      rw [hA, hB, if_neg n0, if_pos w1]
    · obtain ⟨rfl, rfl⟩ := f
      refine S14_6_46 _ _ _ _ (R ?_)
      rw [hA, hB, if_pos wz]
  exact S14_6_0 _ _ ⟨fun q => bad (by omega), fun t0 => ⟨fun t1 => ⟨fun q => bad (by omega), fun w0 => ⟨fun w2 => ⟨fun a => k45 a w0 w2, fun a => k53 a w0 w2⟩, fun q => bad (by omega)⟩⟩, fun q => bad (by omega)⟩⟩
end
