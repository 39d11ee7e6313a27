-- ===== type, wipe, warns =====
/-- what a change of a text may touch -/
def fTy (T : Nat) (t : Int) (a : Nat) (j : Int) : Prop := (a = T ∧ 4 ≤ j ∧ j ≤ 8) ∨ (T + 1 ≤ a ∧ a ≤ T + 3) ∨ (a = T + 4 ∧ (j = 3 ∨ j = 4)) ∨ (T + 5 ≤ a ∧ a ≤ T + 7) ∨ (a = 103 ∧ 50 * t ≤ j ∧ j < 50 * t + 50) ∨ (a = 104 ∧ j = t)
def plc : List Int → Int → Nat
  | [], _ => 0
  | x :: r, g => if x = g then 0 else plc r g + 1
theorem plc_at : ∀ {l : List Int} {g : Int} {i : Nat}, i < l.length → l.getD i 0 = g → (∀ j : Nat, j < i → l.getD j 0 ≠ g) → plc l g = i
  | [], _, i, h, _, _ => absurd h (Nat.not_lt_zero i)
  | x :: r, g, 0, _, e, _ => if_pos e
  | x :: r, g, i + 1, h, e, H => by
    unfold plc
    rw [if_neg (show ¬ x = g from H 0 (by omega)), plc_at (l := r) (i := i) (by simp at h; omega) e (fun j hj => H (j + 1) (by omega))]
theorem mem_ex {l : List Int} {g : Int} (h : g ∈ l) : ∃ i : Nat, i < l.length ∧ l.getD i 0 = g ∧ ∀ j : Nat, j < i → l.getD j 0 ≠ g := by
  induction l with
  | nil => cases h
  | cons x r ih =>
    by_cases c : x = g
    · exact ⟨0, by simp, c, fun j hj => absurd hj (Nat.not_lt_zero j)⟩
    · rcases List.mem_cons.mp h with q | q
      · exact absurd q.symm c
      · obtain ⟨i, a1, a2, a3⟩ := ih q
        refine ⟨i + 1, by simp; omega, a2, fun j hj => ?_⟩
        cases j with
        | zero => exact c
        | succ j => exact a3 j (by omega)
theorem plc_lt {l : List Int} {g : Int} (h : g ∈ l) : plc l g < l.length ∧ l.getD (plc l g) 0 = g := by
  obtain ⟨i, a1, a2, a3⟩ := mem_ex h
  rw [plc_at a1 a2 a3]
  exact ⟨a1, a2⟩
section
variable {X : Nat × (Int → Int)}
theorem ty_45 {h h2 : HP} (i : Inv h) (F : Fr (fTy 45 0) h h2) (hx : 0 ≤ h2 104 0 ∧ h2 104 0 ≤ 50 ∧ ∀ p : Int, 0 ≤ p → p < h2 104 0 → 0 ≤ h2 103 (50 * 0 + p) ∧ h2 103 (50 * 0 + p) ≤ 255) (hi : I_txt 45 0 h2) : Inv h2 := by
  obtain ⟨⟨i1, i2, i3, i4, i5, i6, i7, i8⟩, nt⟩ := i
  have x0 := i4.1 0 (by omega) (by omega)
  have x1 := i4.1 1 (by omega) (by omega)
  refine ⟨⟨i1.fr F (fun a j c => by unfold fTy at c; unfold rSet; omega), i2.fr F (fun a j c => by unfold fTy at c; unfold rTel; omega), i3.fr i2.1.1.2.1 F (fun a j c => by unfold fTy at c; unfold rDer; omega), ⟨fun t a c => ?_, ?_⟩, i5.fr F (fun a j c => by unfold fTy at c; omega), i6.fr F (fun a j c => by unfold fTy at c; unfold rC; omega), i7.fr F (fun a j c => by unfold fTy at c; unfold rO; omega), i8.fr F (fun a j c => by unfold fTy at c; unfold rL; omega)⟩, nt.fr2 F (fun a j c => by unfold fTy at c; omega)⟩
  · by_cases q : t = 0
    · rw [q]; exact hx
    · have e4 : h2 104 t = h 104 t := F _ _ (by unfold fTy; omega)
      have x := i4.1 t a c
      refine ⟨by rw [e4]; exact x.1, by rw [e4]; exact x.2.1, fun p a1 a2 => ?_⟩
      rw [e4] at a2
      rw [F 103 _ (by unfold fTy; omega)]
      exact x.2.2 p a1 a2
  · first
      | exact ⟨hi, i4.2.2.fr ⟨x1.1, x1.2.1⟩ F (fun a j c => by unfold fTy at c; unfold rTxt; omega)⟩
      | exact ⟨i4.2.1.fr ⟨x0.1, x0.2.1⟩ F (fun a j c => by unfold fTy at c; unfold rTxt; omega), hi⟩
/-- a byte comes to text 0 on both sides -/
theorem tyA_45 {h : HP} (i : Inv h) {x : Int} (hx : 0 ≤ x ∧ x ≤ 255) (hl : h 45 4 < 50) : Wp X 5 206 0 [vr 45, vi x] [] h (fun v h1 => v = none ∧ h1 45 4 = h 104 0 + 1 ∧ h1 104 0 = h 104 0 ∧ Inv (upd2 (upd2 h1 103 (50 * 0 + h 104 0) x) 104 0 (h 104 0 + 1))) := by
  have xx := i.1.2.2.2.1
  have x0 := xx.1 0 (by omega) (by omega)
  have it : I_txt 45 0 h := by first | exact xx.2.1 | exact xx.2.2
  have e4 := it.1
  refine (K206_45 (h0 := h) ⟨by omega, hl⟩ hx (fun p a c => ?_)).mono fun v h1 _ f => ?_
  · have e := it.2.1 p a (by omega)
    have e : h 46 p = h 103 (50 * 0 + p) := e
    rw [e]
    exact x0.2.2 p a (by omega)
  · obtain ⟨rfl, F1, td⟩ := f
    have f4 : h1 45 4 = h 104 0 + 1 := by rw [F1 _ _ (by unfold fTx; omega), upd2_s, e4]
    have g4 : h1 104 0 = h 104 0 := by rw [F1 _ _ (by unfold fTx; omega), upd2_ne (by decide), upd2_ne (by decide)]
    have F0 : Fr (fTy 45 0) h (upd2 (upd2 h 46 (h 45 4) x) 45 4 ((h 45 4) + 1)) := (Fr.rf.up (.inr (.inl (by decide)))).up (.inl ⟨rfl, by decide, by decide⟩)
    have F : Fr (fTy 45 0) h (upd2 (upd2 h1 103 (50 * 0 + h 104 0) x) 104 0 (h 104 0 + 1)) := ((F0.tr (F1.mo fun a j c => by unfold fTx at c; unfold fTy; omega)).up (by unfold fTy; omega)).up (by unfold fTy; omega)
    have r3 : ∀ j, upd2 (upd2 h1 103 (50 * 0 + h 104 0) x) 104 0 (h 104 0 + 1) 103 j = if j = 50 * 0 + h 104 0 then x else h 103 j := fun j => by
      rw [upd2_ne (by decide), upd2_at, F1 103 _ (by unfold fTx; omega), upd2_ne (by decide), upd2_ne (by decide)]
    have r1 : ∀ p, upd2 (upd2 h1 103 (50 * 0 + h 104 0) x) 104 0 (h 104 0 + 1) 46 p = if p = h 104 0 then x else h 46 p := fun p => by
      rw [upd2_ne (by decide), upd2_ne (by decide), F1 46 _ (by unfold fTx; omega), upd2_ne (by decide), upd2_at, e4]
    have w : Wt (upd2 (upd2 h1 103 (50 * 0 + h 104 0) x) 104 0 (h 104 0 + 1)) 0 = fb (upd2 h 46 (h 45 4) x 46) (h 45 4 + 1) := by
      funext p
      unfold Wt fb
      rw [upd2_s, e4]
      by_cases c : 0 ≤ p ∧ p < h 104 0 + 1
      · rw [if_pos c, if_pos c]
        show upd2 (upd2 h1 103 _ x) 104 _ _ 103 (50 * 0 + p) = _
        rw [r3, upd2_at]
        by_cases q : p = h 104 0
        · rw [if_pos (by omega), if_pos q]
        · rw [if_neg (by omega), if_neg q]
          exact (it.2.1 p c.1 (by omega)).symm
      · rw [if_neg c, if_neg c]
    refine ⟨rfl, f4, g4, ty_45 i F ?_ ⟨?_, fun p a c => ?_, ?_⟩⟩
    · rw [upd2_s]
      refine ⟨by omega, by omega, fun p a c => ?_⟩
      rw [r3]
      by_cases q : p = h 104 0
      · rw [if_pos (by omega)]; exact hx
      · rw [if_neg (by omega)]; exact x0.2.2 p a (by omega)
    · rw [upd2_s, upd2_ne (by decide), upd2_ne (by decide)]; exact f4
    · rw [upd2_s] at c
      have r1p := r1 p
      have r1p : upd2 (upd2 h1 103 (50 * 0 + h 104 0) x) 104 0 (h 104 0 + 1) (45 + 1) p = if p = h 104 0 then x else h 46 p := r1p
      rw [r1p, r3]
      by_cases q : p = h 104 0
      · rw [if_pos q, if_pos (by omega)]
      · rw [if_neg q, if_neg (by omega)]
        exact it.2.1 p a (by omega)
    · rw [w, upd2_s, ← e4]
      exact td.fr (C := fun a j => a = 103 ∨ a = 104) ((Fr.rf.up (.inl rfl)).up (.inr rfl)) (fun a j c => by omega)
theorem tyW_45 {h : HP} (i : Inv h) : Wp X 5 207 0 [vr 45] [] h (fun v h1 => v = none ∧ h1 104 0 = h 104 0 ∧ Inv (upd2 h1 104 0 0)) := by
  have xx := i.1.2.2.2.1
  have x0 := xx.1 0 (by omega) (by omega)
  refine (K207_45 (h0 := h)).mono fun v h1 _ f => ?_
  obtain ⟨rfl, F1, td⟩ := f
  have g4 : h1 104 0 = h 104 0 := by rw [F1 _ _ (by unfold fTx; omega), upd2_ne (by decide)]
  have F0 : Fr (fTy 45 0) h (upd2 h 45 4 0) := Fr.rf.up (.inl ⟨rfl, by decide, by decide⟩)
  have F : Fr (fTy 45 0) h (upd2 h1 104 0 0) := (F0.tr (F1.mo fun a j c => by unfold fTx at c; unfold fTy; omega)).up (by unfold fTy; omega)
  have w : Wt (upd2 h1 104 0 0) 0 = fb (h 46) 0 := by
    funext p
    unfold Wt fb
    rw [upd2_s, if_neg (by omega), if_neg (by omega)]
  refine ⟨rfl, g4, ty_45 i F ?_ ⟨?_, fun p a c => ?_, ?_⟩⟩
  · rw [upd2_s]
    exact ⟨by omega, by omega, fun p a c => absurd c (by omega)⟩
  · rw [upd2_s, upd2_ne (by decide), F1 _ _ (by unfold fTx; omega), upd2_s]
  · rw [upd2_s] at c
    exact absurd c (by omega)
  · rw [w, upd2_s]
    exact td.fr (C := fun a j => a = 104) (Fr.rf.up rfl) (fun a j c => by omega)
theorem ty_53 {h h2 : HP} (i : Inv h) (F : Fr (fTy 53 1) h h2) (hx : 0 ≤ h2 104 1 ∧ h2 104 1 ≤ 50 ∧ ∀ p : Int, 0 ≤ p → p < h2 104 1 → 0 ≤ h2 103 (50 * 1 + p) ∧ h2 103 (50 * 1 + p) ≤ 255) (hi : I_txt 53 1 h2) : Inv h2 := by
  obtain ⟨⟨i1, i2, i3, i4, i5, i6, i7, i8⟩, nt⟩ := i
  have x0 := i4.1 0 (by omega) (by omega)
  have x1 := i4.1 1 (by omega) (by omega)
  refine ⟨⟨i1.fr F (fun a j c => by unfold fTy at c; unfold rSet; omega), i2.fr F (fun a j c => by unfold fTy at c; unfold rTel; omega), i3.fr i2.1.1.2.1 F (fun a j c => by unfold fTy at c; unfold rDer; omega), ⟨fun t a c => ?_, ?_⟩, i5.fr F (fun a j c => by unfold fTy at c; omega), i6.fr F (fun a j c => by unfold fTy at c; unfold rC; omega), i7.fr F (fun a j c => by unfold fTy at c; unfold rO; omega), i8.fr F (fun a j c => by unfold fTy at c; unfold rL; omega)⟩, nt.fr2 F (fun a j c => by unfold fTy at c; omega)⟩
  · by_cases q : t = 1
    · rw [q]; exact hx
    · have e4 : h2 104 t = h 104 t := F _ _ (by unfold fTy; omega)
      have x := i4.1 t a c
      refine ⟨by rw [e4]; exact x.1, by rw [e4]; exact x.2.1, fun p a1 a2 => ?_⟩
      rw [e4] at a2
      rw [F 103 _ (by unfold fTy; omega)]
      exact x.2.2 p a1 a2
  · first
      | exact ⟨hi, i4.2.2.fr ⟨x1.1, x1.2.1⟩ F (fun a j c => by unfold fTy at c; unfold rTxt; omega)⟩
      | exact ⟨i4.2.1.fr ⟨x0.1, x0.2.1⟩ F (fun a j c => by unfold fTy at c; unfold rTxt; omega), hi⟩
/-- a byte comes to text 1 on both sides -/
theorem tyA_53 {h : HP} (i : Inv h) {x : Int} (hx : 0 ≤ x ∧ x ≤ 255) (hl : h 53 4 < 50) : Wp X 5 206 0 [vr 53, vi x] [] h (fun v h1 => v = none ∧ h1 53 4 = h 104 1 + 1 ∧ h1 104 1 = h 104 1 ∧ Inv (upd2 (upd2 h1 103 (50 * 1 + h 104 1) x) 104 1 (h 104 1 + 1))) := by
  have xx := i.1.2.2.2.1
  have x0 := xx.1 1 (by omega) (by omega)
  have it : I_txt 53 1 h := by first | exact xx.2.1 | exact xx.2.2
  have e4 := it.1
  refine (K206_53 (h0 := h) ⟨by omega, hl⟩ hx (fun p a c => ?_)).mono fun v h1 _ f => ?_
  · have e := it.2.1 p a (by omega)
    have e : h 54 p = h 103 (50 * 1 + p) := e
    rw [e]
    exact x0.2.2 p a (by omega)
  · obtain ⟨rfl, F1, td⟩ := f
    have f4 : h1 53 4 = h 104 1 + 1 := by rw [F1 _ _ (by unfold fTx; omega), upd2_s, e4]
    have g4 : h1 104 1 = h 104 1 := by rw [F1 _ _ (by unfold fTx; omega), upd2_ne (by decide), upd2_ne (by decide)]
    have F0 : Fr (fTy 53 1) h (upd2 (upd2 h 54 (h 53 4) x) 53 4 ((h 53 4) + 1)) := (Fr.rf.up (.inr (.inl (by decide)))).up (.inl ⟨rfl, by decide, by decide⟩)
    have F : Fr (fTy 53 1) h (upd2 (upd2 h1 103 (50 * 1 + h 104 1) x) 104 1 (h 104 1 + 1)) := ((F0.tr (F1.mo fun a j c => by unfold fTx at c; unfold fTy; omega)).up (by unfold fTy; omega)).up (by unfold fTy; omega)
    have r3 : ∀ j, upd2 (upd2 h1 103 (50 * 1 + h 104 1) x) 104 1 (h 104 1 + 1) 103 j = if j = 50 * 1 + h 104 1 then x else h 103 j := fun j => by
      rw [upd2_ne (by decide), upd2_at, F1 103 _ (by unfold fTx; omega), upd2_ne (by decide), upd2_ne (by decide)]
    have r1 : ∀ p, upd2 (upd2 h1 103 (50 * 1 + h 104 1) x) 104 1 (h 104 1 + 1) 54 p = if p = h 104 1 then x else h 54 p := fun p => by
      rw [upd2_ne (by decide), upd2_ne (by decide), F1 54 _ (by unfold fTx; omega), upd2_ne (by decide), upd2_at, e4]
    have w : Wt (upd2 (upd2 h1 103 (50 * 1 + h 104 1) x) 104 1 (h 104 1 + 1)) 1 = fb (upd2 h 54 (h 53 4) x 54) (h 53 4 + 1) := by
      funext p
      unfold Wt fb
      rw [upd2_s, e4]
      by_cases c : 0 ≤ p ∧ p < h 104 1 + 1
      · rw [if_pos c, if_pos c]
        show upd2 (upd2 h1 103 _ x) 104 _ _ 103 (50 * 1 + p) = _
        rw [r3, upd2_at]
        by_cases q : p = h 104 1
        · rw [if_pos (by omega), if_pos q]
        · rw [if_neg (by omega), if_neg q]
          exact (it.2.1 p c.1 (by omega)).symm
      · rw [if_neg c, if_neg c]
    refine ⟨rfl, f4, g4, ty_53 i F ?_ ⟨?_, fun p a c => ?_, ?_⟩⟩
    · rw [upd2_s]
      refine ⟨by omega, by omega, fun p a c => ?_⟩
      rw [r3]
      by_cases q : p = h 104 1
      · rw [if_pos (by omega)]; exact hx
      · rw [if_neg (by omega)]; exact x0.2.2 p a (by omega)
    · rw [upd2_s, upd2_ne (by decide), upd2_ne (by decide)]; exact f4
    · rw [upd2_s] at c
      have r1p := r1 p
      have r1p : upd2 (upd2 h1 103 (50 * 1 + h 104 1) x) 104 1 (h 104 1 + 1) (53 + 1) p = if p = h 104 1 then x else h 54 p := r1p
      rw [r1p, r3]
      by_cases q : p = h 104 1
      · rw [if_pos q, if_pos (by omega)]
      · rw [if_neg q, if_neg (by omega)]
        exact it.2.1 p a (by omega)
    · rw [w, upd2_s, ← e4]
      exact td.fr (C := fun a j => a = 103 ∨ a = 104) ((Fr.rf.up (.inl rfl)).up (.inr rfl)) (fun a j c => by omega)
theorem tyW_53 {h : HP} (i : Inv h) : Wp X 5 207 0 [vr 53] [] h (fun v h1 => v = none ∧ h1 104 1 = h 104 1 ∧ Inv (upd2 h1 104 1 0)) := by
  have xx := i.1.2.2.2.1
  have x0 := xx.1 1 (by omega) (by omega)
  refine (K207_53 (h0 := h)).mono fun v h1 _ f => ?_
  obtain ⟨rfl, F1, td⟩ := f
  have g4 : h1 104 1 = h 104 1 := by rw [F1 _ _ (by unfold fTx; omega), upd2_ne (by decide)]
  have F0 : Fr (fTy 53 1) h (upd2 h 53 4 0) := Fr.rf.up (.inl ⟨rfl, by decide, by decide⟩)
  have F : Fr (fTy 53 1) h (upd2 h1 104 1 0) := (F0.tr (F1.mo fun a j c => by unfold fTx at c; unfold fTy; omega)).up (by unfold fTy; omega)
  have w : Wt (upd2 h1 104 1 0) 1 = fb (h 54) 0 := by
    funext p
    unfold Wt fb
    rw [upd2_s, if_neg (by omega), if_neg (by omega)]
  refine ⟨rfl, g4, ty_53 i F ?_ ⟨?_, fun p a c => ?_, ?_⟩⟩
  · rw [upd2_s]
    exact ⟨by omega, by omega, fun p a c => absurd c (by omega)⟩
  · rw [upd2_s, upd2_ne (by decide), F1 _ _ (by unfold fTx; omega), upd2_s]
  · rw [upd2_s] at c
    exact absurd c (by omega)
  · rw [w, upd2_s]
    exact td.fr (C := fun a j => a = 104) (Fr.rf.up rfl) (fun a j c => by omega)
theorem a10 (y1 y2 : Int) : Ag X Inv 6 10 2 86 vi [vr 6, vi y1, vi y2] [vr 89, vi y1, vi y2] := by
  intro h i
  have xx := i.1.2.2.2.1
  have bad : ¬ (0 ≤ y1 ∧ y1 ≤ 1 ∧ 0 ≤ y2 ∧ y2 ≤ 255) → (fun (r : Option aV) (h1 : HP) => ∃ a : Int, r = some (vi a) ∧ Wp X 2 86 0 [vr 89, vi y1, vi y2] [] h1 (fun r2 h2 => r2 = some (vi a) ∧ Inv h2)) (some (vi (-2))) h := by
    intro q
    refine ⟨-2, rfl, T86_89_0 _ _ ?_⟩
    exact ⟨fun _ => ⟨rfl, i⟩, fun q1 => ⟨fun _ => ⟨rfl, i⟩, fun q2 => ⟨fun _ => ⟨rfl, i⟩, fun q3 => ⟨fun _ => ⟨rfl, i⟩, fun q4 => absurd ⟨q1, q2, q3, q4⟩ q⟩⟩⟩⟩
  have full : 0 ≤ y1 → y1 ≤ 1 → 0 ≤ y2 → y2 ≤ 255 → h 104 y1 = 50 → (fun (r : Option aV) (h1 : HP) => ∃ a : Int, r = some (vi a) ∧ Wp X 2 86 0 [vr 89, vi y1, vi y2] [] h1 (fun r2 h2 => r2 = some (vi a) ∧ Inv h2)) (some (vi (-4))) h := by
    intro q1 q2 q3 q4 q5
    refine ⟨-4, rfl, T86_89_0 _ _ ?_⟩
    exact ⟨fun q => absurd q (by omega), fun _ => ⟨fun q => absurd q (by omega), fun _ => ⟨fun q => absurd q (by omega), fun _ => ⟨fun q => absurd q (by omega), fun _ => ⟨⟨by omega, by omega⟩, fun q => absurd q5 q, fun _ => ⟨rfl, i⟩⟩⟩⟩⟩⟩
  refine S10_6_0 _ _ ⟨fun q => bad (by omega), fun q1 => ⟨fun q2 => ⟨fun q => bad (by omega), fun q3 => ⟨fun q4 => ⟨fun q5 => ⟨fun q6 => full q1 q2 q3 q4 ?_, fun q6 => (tyA_45 i ⟨q3, q4⟩ q6).mono fun v h1 _ f => ?_⟩, fun q5 => ⟨fun q6 => full q1 q2 q3 q4 ?_, fun q6 => (tyA_53 i ⟨q3, q4⟩ q6).mono fun v h1 _ f => ?_⟩⟩, fun q => bad (by omega)⟩⟩, fun q => bad (by omega)⟩⟩
  · have := xx.2.1.1
    have := (xx.1 0 (by omega) (by omega)).2.1
    rw [q5]; omega
  · obtain ⟨rfl, f4, g4, iv⟩ := f
    have x0 := xx.1 0 (by omega) (by omega)
    have l4 := xx.2.1.1
    refine S10_6_48 _ _ ⟨by omega, fun _ => ⟨h1 45 4, rfl, T86_89_0 _ _ ?_⟩, fun q => absurd q (by decide)⟩
    rw [q5, g4]
    exact ⟨fun q => absurd q (by omega), fun _ => ⟨fun q => absurd q (by omega), fun _ => ⟨fun q => absurd q (by omega), fun _ => ⟨fun q => absurd q (by omega), fun _ => ⟨⟨by omega, by omega⟩, fun _ => ⟨by unfold R32; omega, ⟨by omega, by omega⟩, by unfold R32; omega, by rw [f4], iv⟩, fun q => absurd q (by omega)⟩⟩⟩⟩⟩
  · have := xx.2.2.1
    have := (xx.1 1 (by omega) (by omega)).2.1
    rw [q5]; omega
  · obtain ⟨rfl, f4, g4, iv⟩ := f
    have x0 := xx.1 1 (by omega) (by omega)
    have l4 := xx.2.2.1
    refine S10_6_48 _ _ ⟨by omega, fun q => absurd q (by decide), fun _ => ⟨h1 53 4, rfl, T86_89_0 _ _ ?_⟩⟩
    rw [q5, g4]
    exact ⟨fun q => absurd q (by omega), fun _ => ⟨fun q => absurd q (by omega), fun _ => ⟨fun q => absurd q (by omega), fun _ => ⟨fun q => absurd q (by omega), fun _ => ⟨⟨by omega, by omega⟩, fun _ => ⟨by unfold R32; omega, ⟨by omega, by omega⟩, by unfold R32; omega, by rw [f4], iv⟩, fun q => absurd q (by omega)⟩⟩⟩⟩⟩
theorem a11 (y1 : Int) : Ag X Inv 6 11 2 87 vi [vr 6, vi y1, vu] [vr 89, vi y1, vu] := by
  intro h i
  have xx := i.1.2.2.2.1
  have bad : ¬ (0 ≤ y1 ∧ y1 ≤ 1) → (fun (r : Option aV) (h1 : HP) => ∃ a : Int, r = some (vi a) ∧ Wp X 2 87 0 [vr 89, vi y1, vu] [] h1 (fun r2 h2 => r2 = some (vi a) ∧ Inv h2)) (some (vi (-2))) h := by
    intro q
    exact ⟨-2, rfl, T87_89_0 _ ⟨fun _ => ⟨rfl, i⟩, fun q1 => ⟨fun _ => ⟨rfl, i⟩, fun q2 => absurd ⟨q1, q2⟩ q⟩⟩⟩
  refine S11_6_0 _ ⟨fun q => bad (by omega), fun q1 => ⟨fun q2 => ⟨fun q5 => (tyW_45 i).mono fun v h1 _ f => ?_, fun q5 => (tyW_53 i).mono fun v h1 _ f => ?_⟩, fun q => bad (by omega)⟩⟩
  · obtain ⟨rfl, g4, iv⟩ := f
    refine S11_6_31 _ _ _ ⟨h 45 4, rfl, T87_89_0 _ ?_⟩
    rw [q5, g4]
    exact ⟨fun q => absurd q (by omega), fun _ => ⟨fun q => absurd q (by omega), fun _ => ⟨⟨by omega, by omega⟩, by rw [xx.2.1.1], iv⟩⟩⟩
  · obtain ⟨rfl, g4, iv⟩ := f
    refine S11_6_31 _ _ _ ⟨h 53 4, rfl, T87_89_0 _ ?_⟩
    rw [q5, g4]
    exact ⟨fun q => absurd q (by omega), fun _ => ⟨fun q => absurd q (by omega), fun _ => ⟨⟨by omega, by omega⟩, by rw [xx.2.2.1], iv⟩⟩⟩
end
