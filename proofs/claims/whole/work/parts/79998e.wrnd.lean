-- ===== warned agrees =====
theorem stV_f {f : Nat} (hf : f ≤ 7) : stV 4 (f : Int) = (fct f : Int) := by
  rcases (show f = 0 ∨ f = 1 ∨ f = 2 ∨ f = 3 ∨ f = 4 ∨ f = 5 ∨ f = 6 ∨ f = 7 by omega) with rfl | rfl | rfl | rfl | rfl | rfl | rfl | rfl <;> rfl
section
variable {X : Nat × (Int → Int)}
theorem K184_45 {h : HP} (i : Inv h) {least : Int} (l0 : 0 ≤ least) (l1 : least ≤ 20) (hf : B_fault h 0 = -1) (h7 : (rwl (VL h) (gn h)).length ≤ 7) : Wp X 14 184 0 [vr 61, vr 45, vi least, vu] [] h (fun v h1 => v = some (vi (B_chance h 0 (rwl (VL h) (gn h)) least)) ∧ P h1 = P h ∧ NT h1) := by
  have e37 := i.row.1
  have fr := fct_r h7
  have pw : ∀ π, 0 ≤ pwn1 h 0 (rwl (VL h) (gn h)) least π ∧ pwn1 h 0 (rwl (VL h) (gn h)) least π ≤ 1 := fun π => by unfold pwn1; split <;> omega
  have hB : B_chance h 0 (rwl (VL h) (gn h)) least = if (rwl (VL h) (gn h)).length ≤ 7 then (1000000 * ssum (pwn1 h 0 (rwl (VL h) (gn h)) least) (PL (rwl (VL h) (gn h)).length)) / (fct (rwl (VL h) (gn h)).length : Int) else -4 := rfl
  rw [if_pos h7] at hB
  obtain ⟨_, _, _, _, p4⟩ := PL_fact h7
  have sr := ssum_r pw (a := PL (rwl (VL h) (gn h)).length)
  rw [p4] at sr
  have tr : TR h (upd2 (upd2 h 61 2 least) 62 6 0) (rwl (VL h) (gn h)) [] least := ⟨(Fr.rf.up (.inl ⟨rfl, rfl⟩)).up (.inr (.inl ⟨rfl, rfl⟩)), by rw [upd2_ne (by decide), upd2_s], [], ⟨by rw [upd2_s]; rfl, by decide, fun i hi => absurd hi (Nat.not_lt_zero i)⟩, Nat.le_refl 0, fun q hq => absurd hq (Nat.not_lt_zero q)⟩
  have k := K185_45 (X := X) i (least := least) rfl hf h7 ⟨l0, l1⟩ (rwl (VL h) (gn h)).length [] 0 _ (Nat.zero_add _) (List.all_eq_true.mp ckl_ok _ (List.mem_range.mpr (by omega))) ⟨by decide, fun k _ => Nat.zero_testBit k⟩ tr
  have k : Wp X 12 185 0 [vr 61, vr 45, vi 0, vi 0, vi 0, vu, vu, vu, vu] [] (upd2 (upd2 h 61 2 least) 62 6 0) (fun v h2 => v = some (vi (ssum (pwn1 h 0 (rwl (VL h) (gn h)) least) (PL (rwl (VL h) (gn h)).length))) ∧ TR h h2 (rwl (VL h) (gn h)) [] least) := k
  refine S184_61_45_0 _ ?_
  rw [e37, stV_f h7]
  refine ⟨fun c => absurd c (by omega), fun _ => ⟨fun c => absurd c (by omega), fun _ => ⟨fun _ => k.mono fun v h2 _ f => ?_, fun c => absurd c (by omega)⟩⟩⟩
  obtain ⟨rfl, t2⟩ := f
  have td : Int.tdiv (1000000 * ssum (pwn1 h 0 (rwl (VL h) (gn h)) least) (PL (rwl (VL h) (gn h)).length)) (fct (rwl (VL h) (gn h)).length : Int) = (1000000 * ssum (pwn1 h 0 (rwl (VL h) (gn h)) least) (PL (rwl (VL h) (gn h)).length)) / (fct (rwl (VL h) (gn h)).length : Int) := Int.tdiv_eq_ediv_of_nonneg (by omega)
  have q0 : 0 ≤ (1000000 * ssum (pwn1 h 0 (rwl (VL h) (gn h)) least) (PL (rwl (VL h) (gn h)).length)) / (fct (rwl (VL h) (gn h)).length : Int) := Int.ediv_nonneg (by omega) (by omega)
  have q1 : (1000000 * ssum (pwn1 h 0 (rwl (VL h) (gn h)) least) (PL (rwl (VL h) (gn h)).length)) / (fct (rwl (VL h) (gn h)).length : Int) ≤ 1000000 := Int.ediv_le_of_le_mul (by omega) (by omega)
  refine S184_61_45_40 _ _ _ _ _ _ ?_
  rw [td]
  exact ⟨by unfold R64; omega, by omega, by unfold R64; omega, by unfold R32; omega, by rw [hB], t2.1.toP (fun a j c => by unfold fTr fRow at c; unfold scr; omega), i.2.fr2 t2.1 (fun a j c => by unfold fTr fRow at c; omega)⟩
theorem K184_53 {h : HP} (i : Inv h) {least : Int} (l0 : 0 ≤ least) (l1 : least ≤ 20) (hf : B_fault h 1 = -1) (h7 : (rwl (VL h) (gn h)).length ≤ 7) : Wp X 14 184 0 [vr 61, vr 53, vi least, vu] [] h (fun v h1 => v = some (vi (B_chance h 1 (rwl (VL h) (gn h)) least)) ∧ P h1 = P h ∧ NT h1) := by
  have e37 := i.row.1
  have fr := fct_r h7
  have pw : ∀ π, 0 ≤ pwn1 h 1 (rwl (VL h) (gn h)) least π ∧ pwn1 h 1 (rwl (VL h) (gn h)) least π ≤ 1 := fun π => by unfold pwn1; split <;> omega
  have hB : B_chance h 1 (rwl (VL h) (gn h)) least = if (rwl (VL h) (gn h)).length ≤ 7 then (1000000 * ssum (pwn1 h 1 (rwl (VL h) (gn h)) least) (PL (rwl (VL h) (gn h)).length)) / (fct (rwl (VL h) (gn h)).length : Int) else -4 := rfl
  rw [if_pos h7] at hB
  obtain ⟨_, _, _, _, p4⟩ := PL_fact h7
  have sr := ssum_r pw (a := PL (rwl (VL h) (gn h)).length)
  rw [p4] at sr
  have tr : TR h (upd2 (upd2 h 61 2 least) 62 6 0) (rwl (VL h) (gn h)) [] least := ⟨(Fr.rf.up (.inl ⟨rfl, rfl⟩)).up (.inr (.inl ⟨rfl, rfl⟩)), by rw [upd2_ne (by decide), upd2_s], [], ⟨by rw [upd2_s]; rfl, by decide, fun i hi => absurd hi (Nat.not_lt_zero i)⟩, Nat.le_refl 0, fun q hq => absurd hq (Nat.not_lt_zero q)⟩
  have k := K185_53 (X := X) i (least := least) rfl hf h7 ⟨l0, l1⟩ (rwl (VL h) (gn h)).length [] 0 _ (Nat.zero_add _) (List.all_eq_true.mp ckl_ok _ (List.mem_range.mpr (by omega))) ⟨by decide, fun k _ => Nat.zero_testBit k⟩ tr
  have k : Wp X 12 185 0 [vr 61, vr 53, vi 0, vi 0, vi 0, vu, vu, vu, vu] [] (upd2 (upd2 h 61 2 least) 62 6 0) (fun v h2 => v = some (vi (ssum (pwn1 h 1 (rwl (VL h) (gn h)) least) (PL (rwl (VL h) (gn h)).length))) ∧ TR h h2 (rwl (VL h) (gn h)) [] least) := k
  refine S184_61_53_0 _ ?_
  rw [e37, stV_f h7]
  refine ⟨fun c => absurd c (by omega), fun _ => ⟨fun c => absurd c (by omega), fun _ => ⟨fun _ => k.mono fun v h2 _ f => ?_, fun c => absurd c (by omega)⟩⟩⟩
  obtain ⟨rfl, t2⟩ := f
  have td : Int.tdiv (1000000 * ssum (pwn1 h 1 (rwl (VL h) (gn h)) least) (PL (rwl (VL h) (gn h)).length)) (fct (rwl (VL h) (gn h)).length : Int) = (1000000 * ssum (pwn1 h 1 (rwl (VL h) (gn h)) least) (PL (rwl (VL h) (gn h)).length)) / (fct (rwl (VL h) (gn h)).length : Int) := Int.tdiv_eq_ediv_of_nonneg (by omega)
  have q0 : 0 ≤ (1000000 * ssum (pwn1 h 1 (rwl (VL h) (gn h)) least) (PL (rwl (VL h) (gn h)).length)) / (fct (rwl (VL h) (gn h)).length : Int) := Int.ediv_nonneg (by omega) (by omega)
  have q1 : (1000000 * ssum (pwn1 h 1 (rwl (VL h) (gn h)) least) (PL (rwl (VL h) (gn h)).length)) / (fct (rwl (VL h) (gn h)).length : Int) ≤ 1000000 := Int.ediv_le_of_le_mul (by omega) (by omega)
  refine S184_61_53_40 _ _ _ _ _ _ ?_
  rw [td]
  exact ⟨by unfold R64; omega, by omega, by unfold R64; omega, by unfold R32; omega, by rw [hB], t2.1.toP (fun a j c => by unfold fTr fRow at c; unfold scr; omega), i.2.fr2 t2.1 (fun a j c => by unfold fTr fRow at c; omega)⟩
theorem a14 (t what : Int) : Ag X Inv 15 14 7 107 vi [vr 6, vi t, vi what] [vr 89, vi t, vi what] :=
  ag_q (fun h => A_wrnd h t what) (fun h i => C14 i ⟨fun least l0 l1 hf _ h7 => K184_45 i l0 l1 hf h7, fun least l0 l1 hf _ h7 => K184_53 i l0 l1 hf h7⟩ t what) (fun h h1 i e => M107 i e)
end
