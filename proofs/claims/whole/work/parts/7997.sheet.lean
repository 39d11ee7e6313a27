-- ===== sheets =====
abbrev AgP (X : Nat × (Int → Int)) (ρ2 m : Nat) (L2 : List aV) : bQ := fun r h1 => ∃ a : Int, r = some (vi a) ∧ Wp X ρ2 m 0 L2 [] h1 (fun r2 h2 => r2 = some (vi a) ∧ Inv h2)
def fSh (S : Nat) (s : Int) (a : Nat) (j : Int) : Prop := (a = S ∧ 1 ≤ j ∧ j ≤ 2) ∨ a = S + 1 ∨ (90 ≤ a ∧ a ≤ 91 ∧ j = s) ∨ (a = 92 ∧ 60 * s ≤ j ∧ j < 60 * s + 60) ∨ a = 93
theorem R32_b {v m : Int} (hm : m = 256 ∨ m = 65536) : R32 (Int.bmod v m.toNat) := by
  unfold R32
  have h : (0 : Nat) < m.toNat := by omega
  have h1 := Int.le_bmod (x := v) (m := m.toNat) h
  have h2 := Int.bmod_lt (x := v) (m := m.toNat) h
  rcases hm with rfl | rfl
  · rw [show Int.toNat 256 = 256 from rfl] at h1 h2 ⊢
    omega
  · rw [show Int.toNat 65536 = 65536 from rfl] at h1 h2 ⊢
    omega
/-- what comes to an item of a form -/
def ctf (f v : Int) : Int := if f = 0 then Int.bmod v 256 else if f = 1 then Int.bmod v 65536 else v
theorem ctf_r {f v : Int} (hv : R32 v) : R32 (ctf f v) := by
  unfold ctf
  split
  · exact R32_b (m := 256) (.inl rfl)
  · split
    · exact R32_b (m := 65536) (.inr rfl)
    · exact hv
section
variable {X : Nat × (Int → Int)}
theorem sh_of_81 {h : HP} (i : Inv h) : I_sh 81 0 h := by
  have a := i.1.2.2.2.2.1
  first | exact a.1 | exact a.2.1 | exact a.2.2.1 | exact a.2.2.2
theorem sh_inv_81 {h h2 : HP} (i : Inv h) (F : Fr (fSh 81 0) h h2) (hi : I_sh 81 0 h2) : Inv h2 := by
  obtain ⟨⟨i1, i2, i3, i4, i5, i6, i7, i8⟩, nt⟩ := i
  refine ⟨⟨i1.fr F (fun a j c => by unfold fSh at c; unfold rSet; omega), i2.fr F (fun a j c => by unfold fSh at c; unfold rTel; omega), i3.fr i2.1.1.2.1 F (fun a j c => by unfold fSh at c; unfold rDer; omega), i4.fr F (fun a j c => by unfold fSh at c; omega), ?_, i6.fr F (fun a j c => by unfold fSh at c; unfold rC; omega), i7.fr F (fun a j c => by unfold fSh at c; unfold rO; omega), i8.fr F (fun a j c => by unfold fSh at c; unfold rL; omega)⟩, nt.fr2 F (fun a j c => by unfold fSh at c; omega)⟩
  refine ⟨?_, ?_, ?_, ?_⟩
  · first | exact hi | exact i5.1.fr F (fun a j c => by unfold fSh at c; unfold rSh; omega)
  · first | exact hi | exact i5.2.1.fr F (fun a j c => by unfold fSh at c; unfold rSh; omega)
  · first | exact hi | exact i5.2.2.1.fr F (fun a j c => by unfold fSh at c; unfold rSh; omega)
  · first | exact hi | exact i5.2.2.2.fr F (fun a j c => by unfold fSh at c; unfold rSh; omega)
-- sheet
theorem sheet_81 {h : HP} (i : Inv h) {f n : Int} (hf : 0 ≤ f ∧ f ≤ 2) (hn : 0 ≤ n ∧ n ≤ 60) : Wp X 1 223 0 [vr 81, vi f, vi n, vu] [] h (fun v h1 => v = none ∧ Wp X 2 53 0 [vr 89, vi 0, vi f, vi n, vu] [] h1 (fun r2 h2 => r2 = some (vi n) ∧ Inv h2)) := by
  have m : ∀ (k j : Nat) (h2 h1 : HP) (z : aV), (j : Int) + k = n → (∀ h3, Fr (fun a j => a = 92 ∧ 60 * 0 ≤ j ∧ j < 60 * 0 + 60) h1 h3 → (∀ q : Int, 0 ≤ q → q < n → h3 92 (60 * 0 + q) = 0) → Inv h3) → Fr (fun a j => a = 92 ∧ 60 * 0 ≤ j ∧ j < 60 * 0 + 60) h1 h2 → (∀ q : Int, 0 ≤ q → q < j → h2 92 (60 * 0 + q) = 0) → Wp X 2 53 55 [vr 89, vi 0, z, vi n, vi j] [] h2 (fun r2 h2 => r2 = some (vi n) ∧ Inv h2) := by
    intro k
    induction k with
    | zero =>
      intro j h2 h1 z hj H F q
      exact S53_89_55 _ _ _ _ ⟨fun _ => ⟨rfl, H h2 F (fun q' a c => q q' a (by omega))⟩, fun c => absurd c (by omega)⟩
    | succ k ih =>
      intro j h2 h1 z hj H F q
      refine S53_89_55 _ _ _ _ ⟨fun c => absurd c (by omega), fun _ => ⟨by unfold R32; omega, by unfold R32; omega, by omega, by unfold R32; omega, ih (j + 1) _ h1 z (by omega) H (F.up ⟨rfl, by omega, by omega⟩) (fun q' a c => ?_)⟩⟩
      rw [upd2_at]
      by_cases w : q' = j
      · rw [if_pos (by omega)]
      · rw [if_neg (by omega)]; exact q q' a (by omega)
  have L : ∀ (k j : Nat) (h1 : HP) (z1 z2 : aV), (j : Int) + k = n → Fr (fSh 81 0) h h1 → h1 81 1 = f → h1 81 2 = n → (∀ q : Int, 0 ≤ q → q < j → h1 82 q = 0) → Wp X 1 223 21 [vr 81, z1, z2, vi j] [] h1 (fun v h1 => v = none ∧ Wp X 2 53 0 [vr 89, vi 0, vi f, vi n, vu] [] h1 (fun r2 h2 => r2 = some (vi n) ∧ Inv h2)) := by
    intro k
    induction k with
    | zero =>
      intro j h1 z1 z2 hj F e1 e2 q
      refine S223_81_21 _ _ _ ⟨fun _ => ⟨rfl, T53_89_0 _ _ _ ?_⟩, fun c => absurd c (by rw [e2]; omega)⟩
      refine ⟨fun c => absurd c (by omega), fun _ => ⟨fun c => absurd c (by omega), fun _ => ⟨fun c => absurd c (by omega), fun _ => ⟨fun c => absurd c (by omega), fun _ => ⟨fun _ => ⟨fun _ => ⟨by omega, ?_⟩, fun c => absurd c (by omega)⟩, fun c => absurd c (by omega)⟩⟩⟩⟩⟩
      have F2 : Fr (fSh 81 0) h (upd2 (upd2 h1 90 0 f) 91 0 n) := (F.up (by unfold fSh; omega)).up (by unfold fSh; omega)
      refine m n.toNat 0 _ (upd2 (upd2 h1 90 0 f) 91 0 n) _ (by omega) (fun h3 F3 z => ?_) Fr.rf (fun q a c => absurd c (by omega))
      have g90 : h3 90 0 = f := by rw [F3 _ _ (by omega), upd2_ne (by decide), upd2_s]
      have g91 : h3 91 0 = n := by rw [F3 _ _ (by omega), upd2_s]
      refine sh_inv_81 i (F2.tr (F3.mo fun a j c => by unfold fSh; omega)) ⟨?_, by omega, by omega, by omega, by omega, fun _ => ⟨?_, fun q' a c => ?_⟩⟩
      · rw [g90, F3 _ _ (by omega), upd2_ne (by decide), upd2_ne (by decide)]; exact e1
      · rw [g91, F3 _ _ (by omega), upd2_ne (by decide), upd2_ne (by decide)]; exact e2
      · rw [g91] at c
        rw [z q' a c, F3 _ _ (by omega), upd2_ne (by decide), upd2_ne (by decide)]
        exact ⟨q q' a (by omega), by unfold R32; omega⟩
    | succ k ih =>
      intro j h1 z1 z2 hj F e1 e2 q
      refine S223_81_21 _ _ _ ⟨fun c => absurd c (by rw [e2]; omega), fun _ => ⟨by omega, ih (j + 1) _ _ _ (by omega) (F.up (by unfold fSh; omega)) ?_ ?_ (fun q' a c => ?_)⟩⟩
      · rw [upd2_ne (by decide)]; exact e1
      · rw [upd2_ne (by decide)]; exact e2
      · rw [upd2_at]
        by_cases w : q' = j
        · rw [if_pos w]
        · rw [if_neg w]; exact q q' a (by omega)
  have go : ∀ n', n' = n → Wp X 1 223 21 [vr 81, vi f, vi n, vi 0] [] (upd2 (upd2 h 81 1 f) 81 2 n') (fun v h1 => v = none ∧ Wp X 2 53 0 [vr 89, vi 0, vi f, vi n, vu] [] h1 (fun r2 h2 => r2 = some (vi n) ∧ Inv h2)) := by
    intro n' e
    rw [e]
    exact L n.toNat 0 _ _ _ (by omega) ((Fr.rf.up (by unfold fSh; omega)).up (by unfold fSh; omega)) (by rw [upd2_o (by decide), upd2_s]) upd2_s (fun q a c => absurd c (by omega))
  exact S223_81_0 _ _ ⟨fun c => absurd c (by omega), fun _ => ⟨fun _ => go n rfl, fun _ => go 0 (by omega)⟩⟩
-- lose
theorem lose_81 {h : HP} (i : Inv h) : (((h 81 1) ≠ (-1) → AgP X 2 54 [vr 89, vi 0] (some (vi (h 81 2))) (upd2 (upd2 h 81 1 (-1)) 81 2 0)) ∧ ((h 81 1) = (-1) → AgP X 2 54 [vr 89, vi 0] (some (vi (-11))) (upd2 h 6 10 1))) := by
  have s := sh_of_81 i
  have s1 := s.1
  have s2 := s.2.1
  refine ⟨fun q => ⟨h 81 2, rfl, T54_89_0 _ ?_⟩, fun q => ⟨-11, rfl, T54_89_0 _ ?_⟩⟩
  · rw [upd2_ne (a := 81) (b := 90) (by decide), upd2_ne (a := 81) (b := 91) (by decide), upd2_ne (a := 81) (b := 90) (by decide), upd2_ne (a := 81) (b := 91) (by decide)]
    refine ⟨fun c => absurd c (by omega), fun _ => ⟨fun c => absurd c (by omega), fun _ => ⟨by omega, fun q2 => ⟨by rw [(s.2.2.2.2.2 q2).1], ?_⟩, fun c => absurd c (by omega)⟩⟩⟩
    have F : Fr (fSh 81 0) h (upd2 (upd2 (upd2 h 81 1 (-1)) 81 2 0) 90 0 (-1)) := ((Fr.rf.up (by unfold fSh; omega)).up (by unfold fSh; omega)).up (by unfold fSh; omega)
    have e90 : (upd2 (upd2 (upd2 h 81 1 (-1)) 81 2 0) 90 0 (-1)) 90 0 = -1 := upd2_s
    have e91 : (upd2 (upd2 (upd2 h 81 1 (-1)) 81 2 0) 90 0 (-1)) 91 0 = h 91 0 := by rw [upd2_ne (by decide), upd2_ne (by decide), upd2_ne (by decide)]
    refine sh_inv_81 i F ⟨?_, by rw [e90]; omega, by rw [e90]; omega, by rw [e91]; exact s.2.2.2.1, by rw [e91]; exact s.2.2.2.2.1, fun c => absurd c (by rw [e90]; omega)⟩
    rw [e90, upd2_ne (by decide), upd2_o (by decide), upd2_s]
  · rw [upd2_ne (a := 6) (b := 90) (by decide)]
    exact ⟨fun c => absurd c (by omega), fun _ => ⟨fun c => absurd c (by omega), fun _ => ⟨by omega, fun c => absurd c (by omega), fun _ => ⟨rfl, fnd i (by omega)⟩⟩⟩⟩
-- an item is put
theorem put_81 {h : HP} (i : Inv h) {k v : Int} (hf : 0 ≤ h 90 0) (hk : 0 ≤ k ∧ k < h 91 0) (hv : R32 v) : Inv (upd2 (upd2 h 82 k v) 92 (60 * 0 + k) v) := by
  have s := sh_of_81 i
  have h60 := s.2.2.2.2.1
  obtain ⟨s2, s3⟩ := s.2.2.2.2.2 hf
  refine sh_inv_81 i ((Fr.rf.up (by unfold fSh; omega)).up (by unfold fSh; omega)) ?_
  unfold I_sh
  rw [upd2_ne (a := 92) (b := 81) (by decide), upd2_ne (a := 82) (b := 81) (by decide), upd2_ne (a := 92) (b := 90) (by decide), upd2_ne (a := 82) (b := 90) (by decide), upd2_ne (a := 92) (b := 91) (by decide), upd2_ne (a := 82) (b := 91) (by decide)]
  refine ⟨s.1, s.2.1, s.2.2.1, s.2.2.2.1, s.2.2.2.2.1, fun _ => ⟨s2, fun q a c => ?_⟩⟩
  rw [upd2_ne (a := 92) (b := 81 + 1) (by decide), upd2_at (a := 92), upd2_ne (a := 82) (b := 92) (by decide), upd2_at (a := 82)]
  by_cases w : q = k
  · rw [if_pos w, if_pos (by omega)]; exact ⟨rfl, hv⟩
  · rw [if_neg w, if_neg (by omega)]; exact s3 q a c
-- lay
theorem lay_81 {h : HP} (i : Inv h) {f k v : Int} (hff : 0 ≤ f ∧ f ≤ 2) (hv : R32 v) : (((h 81 1) ≠ (-1) → (((h 81 1) = f → ((k < 0 → AgP X 2 57 [vr 89, vi 0, vi f, vi k, vi v, vu] (some (vi (-12))) (upd2 h 6 10 2)) ∧ (0 ≤ k → ((R32 ((h 81 2) - 1)) ∧ ((((h 81 2) - 1) < k → AgP X 2 57 [vr 89, vi 0, vi f, vi k, vi v, vu] (some (vi (-12))) (upd2 h 6 10 2)) ∧ (k ≤ ((h 81 2) - 1) → (((h 81 1) ≠ 0 → (((h 81 1) ≠ 1 → ((0 ≤ k ∧ k < 60) ∧ AgP X 2 57 [vr 89, vi 0, vi f, vi k, vi v, vu] (some (vi 1)) (upd2 h 82 k v))) ∧ ((h 81 1) = 1 → ((0 ≤ k ∧ k < 60) ∧ AgP X 2 57 [vr 89, vi 0, vi f, vi k, vi v, vu] (some (vi 1)) (upd2 h 82 k (Int.bmod v 65536)))))) ∧ ((h 81 1) = 0 → ((0 ≤ k ∧ k < 60) ∧ AgP X 2 57 [vr 89, vi 0, vi f, vi k, vi v, vu] (some (vi 1)) (upd2 h 82 k (Int.bmod v 256))))))))))) ∧ ((h 81 1) ≠ f → AgP X 2 57 [vr 89, vi 0, vi f, vi k, vi v, vu] (some (vi (-13))) (upd2 h 6 10 3)))) ∧ ((h 81 1) = (-1) → AgP X 2 57 [vr 89, vi 0, vi f, vi k, vi v, vu] (some (vi (-11))) (upd2 h 6 10 1))) := by
  have s := sh_of_81 i
  have s1 := s.1
  have s2 := s.2.1
  have s4 := s.2.2.2.1
  have s5 := s.2.2.2.2.1
  refine ⟨fun q => ⟨fun q2 => ?_, fun q2 => ⟨-13, rfl, T57_89_0 _ _ _ _ ?_⟩⟩, fun q => ⟨-11, rfl, T57_89_0 _ _ _ _ ?_⟩⟩
  · have hf : 0 ≤ h 90 0 := by omega
    obtain ⟨e2, s3⟩ := s.2.2.2.2.2 hf
    rw [e2]
    have bad : (k < 0 ∨ h 91 0 - 1 < k) → AgP X 2 57 [vr 89, vi 0, vi f, vi k, vi v, vu] (some (vi (-12))) (upd2 h 6 10 2) := by
      intro q3
      refine ⟨-12, rfl, T57_89_0 _ _ _ _ ?_⟩
      rw [upd2_ne (a := 6) (b := 90) (by decide), upd2_ne (a := 6) (b := 91) (by decide)]
      exact ⟨fun c => absurd c (by omega), fun _ => ⟨fun c => absurd c (by omega), fun _ => ⟨fun c => absurd c (by omega), fun _ => ⟨fun c => absurd c (by omega), fun _ => ⟨by omega, fun _ => ⟨fun _ => ⟨by unfold R32; omega, fun _ => ⟨rfl, fnd i (by omega)⟩, fun c1 => ⟨fun _ => ⟨rfl, fnd i (by omega)⟩, fun c2 => absurd q3 (by omega)⟩⟩, fun c => absurd c (by omega)⟩, fun c => absurd c (by omega)⟩⟩⟩⟩⟩
    refine ⟨fun q3 => bad (.inl q3), fun q3 => ⟨by unfold R32; omega, fun q4 => bad (.inr q4), fun q4 => ?_⟩⟩
    have good : ∀ v', R32 v' → ((f ≠ 0 → ((f ≠ 1 → v' = v) ∧ (f = 1 → v' = Int.bmod v 65536))) ∧ (f = 0 → v' = Int.bmod v 256)) → ((0 ≤ k ∧ k < 60) ∧ AgP X 2 57 [vr 89, vi 0, vi f, vi k, vi v, vu] (some (vi 1)) (upd2 h 82 k v')) := by
      intro v' hv' e
      have p := put_81 i hf (k := k) (v := v') ⟨q3, by omega⟩ hv'
      refine ⟨⟨q3, by omega⟩, 1, rfl, T57_89_0 _ _ _ _ ?_⟩
      rw [upd2_ne (a := 82) (b := 90) (by decide), upd2_ne (a := 82) (b := 91) (by decide)]
      exact ⟨fun c => absurd c (by omega), fun _ => ⟨fun c => absurd c (by omega), fun _ => ⟨fun c => absurd c (by omega), fun _ => ⟨fun c => absurd c (by omega), fun _ => ⟨by omega, fun _ => ⟨fun _ => ⟨by unfold R32; omega, fun c => absurd c (by omega), fun _ => ⟨fun c => absurd c (by omega), fun _ => ⟨by unfold R32; omega, fun c1 => ⟨fun c2 => ⟨by omega, rfl, by rw [← (e.1 c1).1 c2]; exact p⟩, fun c2 => ⟨by omega, rfl, by rw [← (e.1 c1).2 c2]; exact p⟩⟩, fun c1 => ⟨by omega, rfl, by rw [← e.2 c1]; exact p⟩⟩⟩⟩, fun c => absurd c (by omega)⟩, fun c => absurd c (by omega)⟩⟩⟩⟩⟩
    exact ⟨fun q5 => ⟨fun q6 => good v hv ⟨fun _ => ⟨fun _ => rfl, fun c => absurd c (by omega)⟩, fun c => absurd c (by omega)⟩, fun q6 => good _ (R32_b (m := 65536) (.inr rfl)) ⟨fun _ => ⟨fun c => absurd c (by omega), fun _ => rfl⟩, fun c => absurd c (by omega)⟩⟩, fun q5 => good _ (R32_b (m := 256) (.inl rfl)) ⟨fun c => absurd c (by omega), fun _ => rfl⟩⟩
  · rw [upd2_ne (a := 6) (b := 90) (by decide), upd2_ne (a := 6) (b := 91) (by decide)]
    exact ⟨fun c => absurd c (by omega), fun _ => ⟨fun c => absurd c (by omega), fun _ => ⟨fun c => absurd c (by omega), fun _ => ⟨fun c => absurd c (by omega), fun _ => ⟨by omega, fun _ => ⟨fun c => absurd c (by omega), fun _ => ⟨rfl, fnd i (by omega)⟩⟩, fun c => absurd c (by omega)⟩⟩⟩⟩⟩
  · rw [upd2_ne (a := 6) (b := 90) (by decide), upd2_ne (a := 6) (b := 91) (by decide)]
    exact ⟨fun c => absurd c (by omega), fun _ => ⟨fun c => absurd c (by omega), fun _ => ⟨fun c => absurd c (by omega), fun _ => ⟨fun c => absurd c (by omega), fun _ => ⟨by omega, fun c => absurd c (by omega), fun _ => ⟨rfl, fnd i (by omega)⟩⟩⟩⟩⟩⟩
-- get
theorem get_81 {h : HP} (i : Inv h) {f k : Int} (hff : 0 ≤ f ∧ f ≤ 2) : (((h 81 1) ≠ (-1) → (((h 81 1) = f → ((k < 0 → AgP X 2 58 [vr 89, vi 0, vi f, vi k] (some (vi (-2147483648))) (upd2 h 6 10 2)) ∧ (0 ≤ k → ((R32 ((h 81 2) - 1)) ∧ ((((h 81 2) - 1) < k → AgP X 2 58 [vr 89, vi 0, vi f, vi k] (some (vi (-2147483648))) (upd2 h 6 10 2)) ∧ (k ≤ ((h 81 2) - 1) → ((0 ≤ k ∧ k < 60) ∧ AgP X 2 58 [vr 89, vi 0, vi f, vi k] (some (vi (h 82 k))) h))))))) ∧ ((h 81 1) ≠ f → AgP X 2 58 [vr 89, vi 0, vi f, vi k] (some (vi (-2147483648))) (upd2 h 6 10 3)))) ∧ ((h 81 1) = (-1) → AgP X 2 58 [vr 89, vi 0, vi f, vi k] (some (vi (-2147483648))) (upd2 h 6 10 1))) := by
  have s := sh_of_81 i
  have s1 := s.1
  have s2 := s.2.1
  have s4 := s.2.2.2.1
  have s5 := s.2.2.2.2.1
  refine ⟨fun q => ⟨fun q2 => ?_, fun q2 => ⟨-2147483648, rfl, T58_89_0 _ _ _ ?_⟩⟩, fun q => ⟨-2147483648, rfl, T58_89_0 _ _ _ ?_⟩⟩
  · have hf : 0 ≤ h 90 0 := by omega
    obtain ⟨e2, s3⟩ := s.2.2.2.2.2 hf
    rw [e2]
    have bad : (k < 0 ∨ h 91 0 - 1 < k) → AgP X 2 58 [vr 89, vi 0, vi f, vi k] (some (vi (-2147483648))) (upd2 h 6 10 2) := by
      intro q3
      refine ⟨-2147483648, rfl, T58_89_0 _ _ _ ?_⟩
      rw [upd2_ne (a := 6) (b := 90) (by decide), upd2_ne (a := 6) (b := 91) (by decide)]
      exact ⟨fun c => absurd c (by omega), fun _ => ⟨fun c => absurd c (by omega), fun _ => ⟨fun c => absurd c (by omega), fun _ => ⟨fun c => absurd c (by omega), fun _ => ⟨by omega, fun _ => ⟨fun _ => ⟨by unfold R32; omega, fun _ => ⟨rfl, fnd i (by omega)⟩, fun c1 => ⟨fun _ => ⟨rfl, fnd i (by omega)⟩, fun c2 => absurd q3 (by omega)⟩⟩, fun c => absurd c (by omega)⟩, fun c => absurd c (by omega)⟩⟩⟩⟩⟩
    refine ⟨fun q3 => bad (.inl q3), fun q3 => ⟨by unfold R32; omega, fun q4 => bad (.inr q4), fun q4 => ⟨⟨q3, by omega⟩, h 82 k, rfl, T58_89_0 _ _ _ ⟨fun c => absurd c (by omega), fun _ => ⟨fun c => absurd c (by omega), fun _ => ⟨fun c => absurd c (by omega), fun _ => ⟨fun c => absurd c (by omega), fun _ => ⟨by omega, fun _ => ⟨fun _ => ⟨by unfold R32; omega, fun c => absurd c (by omega), fun _ => ⟨fun c => absurd c (by omega), fun _ => ⟨by unfold R32; omega, by omega, ?_, i⟩⟩⟩, fun c => absurd c (by omega)⟩, fun c => absurd c (by omega)⟩⟩⟩⟩⟩⟩⟩⟩
    have := (s3 k q3 (by omega)).1
    have : h 82 k = h 92 (60 * 0 + k) := this
    rw [this]
  · rw [upd2_ne (a := 6) (b := 90) (by decide), upd2_ne (a := 6) (b := 91) (by decide)]
    exact ⟨fun c => absurd c (by omega), fun _ => ⟨fun c => absurd c (by omega), fun _ => ⟨fun c => absurd c (by omega), fun _ => ⟨fun c => absurd c (by omega), fun _ => ⟨by omega, fun _ => ⟨fun c => absurd c (by omega), fun _ => ⟨rfl, fnd i (by omega)⟩⟩, fun c => absurd c (by omega)⟩⟩⟩⟩⟩
  · rw [upd2_ne (a := 6) (b := 90) (by decide), upd2_ne (a := 6) (b := 91) (by decide)]
    exact ⟨fun c => absurd c (by omega), fun _ => ⟨fun c => absurd c (by omega), fun _ => ⟨fun c => absurd c (by omega), fun _ => ⟨fun c => absurd c (by omega), fun _ => ⟨by omega, fun c => absurd c (by omega), fun _ => ⟨rfl, fnd i (by omega)⟩⟩⟩⟩⟩⟩
theorem sh_of_83 {h : HP} (i : Inv h) : I_sh 83 1 h := by
  have a := i.1.2.2.2.2.1
  first | exact a.1 | exact a.2.1 | exact a.2.2.1 | exact a.2.2.2
theorem sh_inv_83 {h h2 : HP} (i : Inv h) (F : Fr (fSh 83 1) h h2) (hi : I_sh 83 1 h2) : Inv h2 := by
  obtain ⟨⟨i1, i2, i3, i4, i5, i6, i7, i8⟩, nt⟩ := i
  refine ⟨⟨i1.fr F (fun a j c => by unfold fSh at c; unfold rSet; omega), i2.fr F (fun a j c => by unfold fSh at c; unfold rTel; omega), i3.fr i2.1.1.2.1 F (fun a j c => by unfold fSh at c; unfold rDer; omega), i4.fr F (fun a j c => by unfold fSh at c; omega), ?_, i6.fr F (fun a j c => by unfold fSh at c; unfold rC; omega), i7.fr F (fun a j c => by unfold fSh at c; unfold rO; omega), i8.fr F (fun a j c => by unfold fSh at c; unfold rL; omega)⟩, nt.fr2 F (fun a j c => by unfold fSh at c; omega)⟩
  refine ⟨?_, ?_, ?_, ?_⟩
  · first | exact hi | exact i5.1.fr F (fun a j c => by unfold fSh at c; unfold rSh; omega)
  · first | exact hi | exact i5.2.1.fr F (fun a j c => by unfold fSh at c; unfold rSh; omega)
  · first | exact hi | exact i5.2.2.1.fr F (fun a j c => by unfold fSh at c; unfold rSh; omega)
  · first | exact hi | exact i5.2.2.2.fr F (fun a j c => by unfold fSh at c; unfold rSh; omega)
-- sheet
theorem sheet_83 {h : HP} (i : Inv h) {f n : Int} (hf : 0 ≤ f ∧ f ≤ 2) (hn : 0 ≤ n ∧ n ≤ 60) : Wp X 1 223 0 [vr 83, vi f, vi n, vu] [] h (fun v h1 => v = none ∧ Wp X 2 53 0 [vr 89, vi 1, vi f, vi n, vu] [] h1 (fun r2 h2 => r2 = some (vi n) ∧ Inv h2)) := by
  have m : ∀ (k j : Nat) (h2 h1 : HP) (z : aV), (j : Int) + k = n → (∀ h3, Fr (fun a j => a = 92 ∧ 60 * 1 ≤ j ∧ j < 60 * 1 + 60) h1 h3 → (∀ q : Int, 0 ≤ q → q < n → h3 92 (60 * 1 + q) = 0) → Inv h3) → Fr (fun a j => a = 92 ∧ 60 * 1 ≤ j ∧ j < 60 * 1 + 60) h1 h2 → (∀ q : Int, 0 ≤ q → q < j → h2 92 (60 * 1 + q) = 0) → Wp X 2 53 55 [vr 89, vi 1, z, vi n, vi j] [] h2 (fun r2 h2 => r2 = some (vi n) ∧ Inv h2) := by
    intro k
    induction k with
    | zero =>
      intro j h2 h1 z hj H F q
      exact S53_89_55 _ _ _ _ ⟨fun _ => ⟨rfl, H h2 F (fun q' a c => q q' a (by omega))⟩, fun c => absurd c (by omega)⟩
    | succ k ih =>
      intro j h2 h1 z hj H F q
      refine S53_89_55 _ _ _ _ ⟨fun c => absurd c (by omega), fun _ => ⟨by unfold R32; omega, by unfold R32; omega, by omega, by unfold R32; omega, ih (j + 1) _ h1 z (by omega) H (F.up ⟨rfl, by omega, by omega⟩) (fun q' a c => ?_)⟩⟩
      rw [upd2_at]
      by_cases w : q' = j
      · rw [if_pos (by omega)]
      · rw [if_neg (by omega)]; exact q q' a (by omega)
  have L : ∀ (k j : Nat) (h1 : HP) (z1 z2 : aV), (j : Int) + k = n → Fr (fSh 83 1) h h1 → h1 83 1 = f → h1 83 2 = n → (∀ q : Int, 0 ≤ q → q < j → h1 84 q = 0) → Wp X 1 223 21 [vr 83, z1, z2, vi j] [] h1 (fun v h1 => v = none ∧ Wp X 2 53 0 [vr 89, vi 1, vi f, vi n, vu] [] h1 (fun r2 h2 => r2 = some (vi n) ∧ Inv h2)) := by
    intro k
    induction k with
    | zero =>
      intro j h1 z1 z2 hj F e1 e2 q
      refine S223_83_21 _ _ _ ⟨fun _ => ⟨rfl, T53_89_0 _ _ _ ?_⟩, fun c => absurd c (by rw [e2]; omega)⟩
      refine ⟨fun c => absurd c (by omega), fun _ => ⟨fun c => absurd c (by omega), fun _ => ⟨fun c => absurd c (by omega), fun _ => ⟨fun c => absurd c (by omega), fun _ => ⟨fun _ => ⟨fun _ => ⟨by omega, ?_⟩, fun c => absurd c (by omega)⟩, fun c => absurd c (by omega)⟩⟩⟩⟩⟩
      have F2 : Fr (fSh 83 1) h (upd2 (upd2 h1 90 1 f) 91 1 n) := (F.up (by unfold fSh; omega)).up (by unfold fSh; omega)
      refine m n.toNat 0 _ (upd2 (upd2 h1 90 1 f) 91 1 n) _ (by omega) (fun h3 F3 z => ?_) Fr.rf (fun q a c => absurd c (by omega))
      have g90 : h3 90 1 = f := by rw [F3 _ _ (by omega), upd2_ne (by decide), upd2_s]
      have g91 : h3 91 1 = n := by rw [F3 _ _ (by omega), upd2_s]
      refine sh_inv_83 i (F2.tr (F3.mo fun a j c => by unfold fSh; omega)) ⟨?_, by omega, by omega, by omega, by omega, fun _ => ⟨?_, fun q' a c => ?_⟩⟩
      · rw [g90, F3 _ _ (by omega), upd2_ne (by decide), upd2_ne (by decide)]; exact e1
      · rw [g91, F3 _ _ (by omega), upd2_ne (by decide), upd2_ne (by decide)]; exact e2
      · rw [g91] at c
        rw [z q' a c, F3 _ _ (by omega), upd2_ne (by decide), upd2_ne (by decide)]
        exact ⟨q q' a (by omega), by unfold R32; omega⟩
    | succ k ih =>
      intro j h1 z1 z2 hj F e1 e2 q
      refine S223_83_21 _ _ _ ⟨fun c => absurd c (by rw [e2]; omega), fun _ => ⟨by omega, ih (j + 1) _ _ _ (by omega) (F.up (by unfold fSh; omega)) ?_ ?_ (fun q' a c => ?_)⟩⟩
      · rw [upd2_ne (by decide)]; exact e1
      · rw [upd2_ne (by decide)]; exact e2
      · rw [upd2_at]
        by_cases w : q' = j
        · rw [if_pos w]
        · rw [if_neg w]; exact q q' a (by omega)
  have go : ∀ n', n' = n → Wp X 1 223 21 [vr 83, vi f, vi n, vi 0] [] (upd2 (upd2 h 83 1 f) 83 2 n') (fun v h1 => v = none ∧ Wp X 2 53 0 [vr 89, vi 1, vi f, vi n, vu] [] h1 (fun r2 h2 => r2 = some (vi n) ∧ Inv h2)) := by
    intro n' e
    rw [e]
    exact L n.toNat 0 _ _ _ (by omega) ((Fr.rf.up (by unfold fSh; omega)).up (by unfold fSh; omega)) (by rw [upd2_o (by decide), upd2_s]) upd2_s (fun q a c => absurd c (by omega))
  exact S223_83_0 _ _ ⟨fun c => absurd c (by omega), fun _ => ⟨fun _ => go n rfl, fun _ => go 0 (by omega)⟩⟩
-- lose
theorem lose_83 {h : HP} (i : Inv h) : (((h 83 1) ≠ (-1) → AgP X 2 54 [vr 89, vi 1] (some (vi (h 83 2))) (upd2 (upd2 h 83 1 (-1)) 83 2 0)) ∧ ((h 83 1) = (-1) → AgP X 2 54 [vr 89, vi 1] (some (vi (-11))) (upd2 h 6 10 1))) := by
  have s := sh_of_83 i
  have s1 := s.1
  have s2 := s.2.1
  refine ⟨fun q => ⟨h 83 2, rfl, T54_89_0 _ ?_⟩, fun q => ⟨-11, rfl, T54_89_0 _ ?_⟩⟩
  · rw [upd2_ne (a := 83) (b := 90) (by decide), upd2_ne (a := 83) (b := 91) (by decide), upd2_ne (a := 83) (b := 90) (by decide), upd2_ne (a := 83) (b := 91) (by decide)]
    refine ⟨fun c => absurd c (by omega), fun _ => ⟨fun c => absurd c (by omega), fun _ => ⟨by omega, fun q2 => ⟨by rw [(s.2.2.2.2.2 q2).1], ?_⟩, fun c => absurd c (by omega)⟩⟩⟩
    have F : Fr (fSh 83 1) h (upd2 (upd2 (upd2 h 83 1 (-1)) 83 2 0) 90 1 (-1)) := ((Fr.rf.up (by unfold fSh; omega)).up (by unfold fSh; omega)).up (by unfold fSh; omega)
    have e90 : (upd2 (upd2 (upd2 h 83 1 (-1)) 83 2 0) 90 1 (-1)) 90 1 = -1 := upd2_s
    have e91 : (upd2 (upd2 (upd2 h 83 1 (-1)) 83 2 0) 90 1 (-1)) 91 1 = h 91 1 := by rw [upd2_ne (by decide), upd2_ne (by decide), upd2_ne (by decide)]
    refine sh_inv_83 i F ⟨?_, by rw [e90]; omega, by rw [e90]; omega, by rw [e91]; exact s.2.2.2.1, by rw [e91]; exact s.2.2.2.2.1, fun c => absurd c (by rw [e90]; omega)⟩
    rw [e90, upd2_ne (by decide), upd2_o (by decide), upd2_s]
  · rw [upd2_ne (a := 6) (b := 90) (by decide)]
    exact ⟨fun c => absurd c (by omega), fun _ => ⟨fun c => absurd c (by omega), fun _ => ⟨by omega, fun c => absurd c (by omega), fun _ => ⟨rfl, fnd i (by omega)⟩⟩⟩⟩
-- an item is put
theorem put_83 {h : HP} (i : Inv h) {k v : Int} (hf : 0 ≤ h 90 1) (hk : 0 ≤ k ∧ k < h 91 1) (hv : R32 v) : Inv (upd2 (upd2 h 84 k v) 92 (60 * 1 + k) v) := by
  have s := sh_of_83 i
  have h60 := s.2.2.2.2.1
  obtain ⟨s2, s3⟩ := s.2.2.2.2.2 hf
  refine sh_inv_83 i ((Fr.rf.up (by unfold fSh; omega)).up (by unfold fSh; omega)) ?_
  unfold I_sh
  rw [upd2_ne (a := 92) (b := 83) (by decide), upd2_ne (a := 84) (b := 83) (by decide), upd2_ne (a := 92) (b := 90) (by decide), upd2_ne (a := 84) (b := 90) (by decide), upd2_ne (a := 92) (b := 91) (by decide), upd2_ne (a := 84) (b := 91) (by decide)]
  refine ⟨s.1, s.2.1, s.2.2.1, s.2.2.2.1, s.2.2.2.2.1, fun _ => ⟨s2, fun q a c => ?_⟩⟩
  rw [upd2_ne (a := 92) (b := 83 + 1) (by decide), upd2_at (a := 92), upd2_ne (a := 84) (b := 92) (by decide), upd2_at (a := 84)]
  by_cases w : q = k
  · rw [if_pos w, if_pos (by omega)]; exact ⟨rfl, hv⟩
  · rw [if_neg w, if_neg (by omega)]; exact s3 q a c
-- lay
theorem lay_83 {h : HP} (i : Inv h) {f k v : Int} (hff : 0 ≤ f ∧ f ≤ 2) (hv : R32 v) : (((h 83 1) ≠ (-1) → (((h 83 1) = f → ((k < 0 → AgP X 2 57 [vr 89, vi 1, vi f, vi k, vi v, vu] (some (vi (-12))) (upd2 h 6 10 2)) ∧ (0 ≤ k → ((R32 ((h 83 2) - 1)) ∧ ((((h 83 2) - 1) < k → AgP X 2 57 [vr 89, vi 1, vi f, vi k, vi v, vu] (some (vi (-12))) (upd2 h 6 10 2)) ∧ (k ≤ ((h 83 2) - 1) → (((h 83 1) ≠ 0 → (((h 83 1) ≠ 1 → ((0 ≤ k ∧ k < 60) ∧ AgP X 2 57 [vr 89, vi 1, vi f, vi k, vi v, vu] (some (vi 1)) (upd2 h 84 k v))) ∧ ((h 83 1) = 1 → ((0 ≤ k ∧ k < 60) ∧ AgP X 2 57 [vr 89, vi 1, vi f, vi k, vi v, vu] (some (vi 1)) (upd2 h 84 k (Int.bmod v 65536)))))) ∧ ((h 83 1) = 0 → ((0 ≤ k ∧ k < 60) ∧ AgP X 2 57 [vr 89, vi 1, vi f, vi k, vi v, vu] (some (vi 1)) (upd2 h 84 k (Int.bmod v 256))))))))))) ∧ ((h 83 1) ≠ f → AgP X 2 57 [vr 89, vi 1, vi f, vi k, vi v, vu] (some (vi (-13))) (upd2 h 6 10 3)))) ∧ ((h 83 1) = (-1) → AgP X 2 57 [vr 89, vi 1, vi f, vi k, vi v, vu] (some (vi (-11))) (upd2 h 6 10 1))) := by
  have s := sh_of_83 i
  have s1 := s.1
  have s2 := s.2.1
  have s4 := s.2.2.2.1
  have s5 := s.2.2.2.2.1
  refine ⟨fun q => ⟨fun q2 => ?_, fun q2 => ⟨-13, rfl, T57_89_0 _ _ _ _ ?_⟩⟩, fun q => ⟨-11, rfl, T57_89_0 _ _ _ _ ?_⟩⟩
  · have hf : 0 ≤ h 90 1 := by omega
    obtain ⟨e2, s3⟩ := s.2.2.2.2.2 hf
    rw [e2]
    have bad : (k < 0 ∨ h 91 1 - 1 < k) → AgP X 2 57 [vr 89, vi 1, vi f, vi k, vi v, vu] (some (vi (-12))) (upd2 h 6 10 2) := by
      intro q3
      refine ⟨-12, rfl, T57_89_0 _ _ _ _ ?_⟩
      rw [upd2_ne (a := 6) (b := 90) (by decide), upd2_ne (a := 6) (b := 91) (by decide)]
      exact ⟨fun c => absurd c (by omega), fun _ => ⟨fun c => absurd c (by omega), fun _ => ⟨fun c => absurd c (by omega), fun _ => ⟨fun c => absurd c (by omega), fun _ => ⟨by omega, fun _ => ⟨fun _ => ⟨by unfold R32; omega, fun _ => ⟨rfl, fnd i (by omega)⟩, fun c1 => ⟨fun _ => ⟨rfl, fnd i (by omega)⟩, fun c2 => absurd q3 (by omega)⟩⟩, fun c => absurd c (by omega)⟩, fun c => absurd c (by omega)⟩⟩⟩⟩⟩
    refine ⟨fun q3 => bad (.inl q3), fun q3 => ⟨by unfold R32; omega, fun q4 => bad (.inr q4), fun q4 => ?_⟩⟩
    have good : ∀ v', R32 v' → ((f ≠ 0 → ((f ≠ 1 → v' = v) ∧ (f = 1 → v' = Int.bmod v 65536))) ∧ (f = 0 → v' = Int.bmod v 256)) → ((0 ≤ k ∧ k < 60) ∧ AgP X 2 57 [vr 89, vi 1, vi f, vi k, vi v, vu] (some (vi 1)) (upd2 h 84 k v')) := by
      intro v' hv' e
      have p := put_83 i hf (k := k) (v := v') ⟨q3, by omega⟩ hv'
      refine ⟨⟨q3, by omega⟩, 1, rfl, T57_89_0 _ _ _ _ ?_⟩
      rw [upd2_ne (a := 84) (b := 90) (by decide), upd2_ne (a := 84) (b := 91) (by decide)]
      exact ⟨fun c => absurd c (by omega), fun _ => ⟨fun c => absurd c (by omega), fun _ => ⟨fun c => absurd c (by omega), fun _ => ⟨fun c => absurd c (by omega), fun _ => ⟨by omega, fun _ => ⟨fun _ => ⟨by unfold R32; omega, fun c => absurd c (by omega), fun _ => ⟨fun c => absurd c (by omega), fun _ => ⟨by unfold R32; omega, fun c1 => ⟨fun c2 => ⟨by omega, rfl, by rw [← (e.1 c1).1 c2]; exact p⟩, fun c2 => ⟨by omega, rfl, by rw [← (e.1 c1).2 c2]; exact p⟩⟩, fun c1 => ⟨by omega, rfl, by rw [← e.2 c1]; exact p⟩⟩⟩⟩, fun c => absurd c (by omega)⟩, fun c => absurd c (by omega)⟩⟩⟩⟩⟩
    exact ⟨fun q5 => ⟨fun q6 => good v hv ⟨fun _ => ⟨fun _ => rfl, fun c => absurd c (by omega)⟩, fun c => absurd c (by omega)⟩, fun q6 => good _ (R32_b (m := 65536) (.inr rfl)) ⟨fun _ => ⟨fun c => absurd c (by omega), fun _ => rfl⟩, fun c => absurd c (by omega)⟩⟩, fun q5 => good _ (R32_b (m := 256) (.inl rfl)) ⟨fun c => absurd c (by omega), fun _ => rfl⟩⟩
  · rw [upd2_ne (a := 6) (b := 90) (by decide), upd2_ne (a := 6) (b := 91) (by decide)]
    exact ⟨fun c => absurd c (by omega), fun _ => ⟨fun c => absurd c (by omega), fun _ => ⟨fun c => absurd c (by omega), fun _ => ⟨fun c => absurd c (by omega), fun _ => ⟨by omega, fun _ => ⟨fun c => absurd c (by omega), fun _ => ⟨rfl, fnd i (by omega)⟩⟩, fun c => absurd c (by omega)⟩⟩⟩⟩⟩
  · rw [upd2_ne (a := 6) (b := 90) (by decide), upd2_ne (a := 6) (b := 91) (by decide)]
    exact ⟨fun c => absurd c (by omega), fun _ => ⟨fun c => absurd c (by omega), fun _ => ⟨fun c => absurd c (by omega), fun _ => ⟨fun c => absurd c (by omega), fun _ => ⟨by omega, fun c => absurd c (by omega), fun _ => ⟨rfl, fnd i (by omega)⟩⟩⟩⟩⟩⟩
-- get
theorem get_83 {h : HP} (i : Inv h) {f k : Int} (hff : 0 ≤ f ∧ f ≤ 2) : (((h 83 1) ≠ (-1) → (((h 83 1) = f → ((k < 0 → AgP X 2 58 [vr 89, vi 1, vi f, vi k] (some (vi (-2147483648))) (upd2 h 6 10 2)) ∧ (0 ≤ k → ((R32 ((h 83 2) - 1)) ∧ ((((h 83 2) - 1) < k → AgP X 2 58 [vr 89, vi 1, vi f, vi k] (some (vi (-2147483648))) (upd2 h 6 10 2)) ∧ (k ≤ ((h 83 2) - 1) → ((0 ≤ k ∧ k < 60) ∧ AgP X 2 58 [vr 89, vi 1, vi f, vi k] (some (vi (h 84 k))) h))))))) ∧ ((h 83 1) ≠ f → AgP X 2 58 [vr 89, vi 1, vi f, vi k] (some (vi (-2147483648))) (upd2 h 6 10 3)))) ∧ ((h 83 1) = (-1) → AgP X 2 58 [vr 89, vi 1, vi f, vi k] (some (vi (-2147483648))) (upd2 h 6 10 1))) := by
  have s := sh_of_83 i
  have s1 := s.1
  have s2 := s.2.1
  have s4 := s.2.2.2.1
  have s5 := s.2.2.2.2.1
  refine ⟨fun q => ⟨fun q2 => ?_, fun q2 => ⟨-2147483648, rfl, T58_89_0 _ _ _ ?_⟩⟩, fun q => ⟨-2147483648, rfl, T58_89_0 _ _ _ ?_⟩⟩
  · have hf : 0 ≤ h 90 1 := by omega
    obtain ⟨e2, s3⟩ := s.2.2.2.2.2 hf
    rw [e2]
    have bad : (k < 0 ∨ h 91 1 - 1 < k) → AgP X 2 58 [vr 89, vi 1, vi f, vi k] (some (vi (-2147483648))) (upd2 h 6 10 2) := by
      intro q3
      refine ⟨-2147483648, rfl, T58_89_0 _ _ _ ?_⟩
      rw [upd2_ne (a := 6) (b := 90) (by decide), upd2_ne (a := 6) (b := 91) (by decide)]
      exact ⟨fun c => absurd c (by omega), fun _ => ⟨fun c => absurd c (by omega), fun _ => ⟨fun c => absurd c (by omega), fun _ => ⟨fun c => absurd c (by omega), fun _ => ⟨by omega, fun _ => ⟨fun _ => ⟨by unfold R32; omega, fun _ => ⟨rfl, fnd i (by omega)⟩, fun c1 => ⟨fun _ => ⟨rfl, fnd i (by omega)⟩, fun c2 => absurd q3 (by omega)⟩⟩, fun c => absurd c (by omega)⟩, fun c => absurd c (by omega)⟩⟩⟩⟩⟩
    refine ⟨fun q3 => bad (.inl q3), fun q3 => ⟨by unfold R32; omega, fun q4 => bad (.inr q4), fun q4 => ⟨⟨q3, by omega⟩, h 84 k, rfl, T58_89_0 _ _ _ ⟨fun c => absurd c (by omega), fun _ => ⟨fun c => absurd c (by omega), fun _ => ⟨fun c => absurd c (by omega), fun _ => ⟨fun c => absurd c (by omega), fun _ => ⟨by omega, fun _ => ⟨fun _ => ⟨by unfold R32; omega, fun c => absurd c (by omega), fun _ => ⟨fun c => absurd c (by omega), fun _ => ⟨by unfold R32; omega, by omega, ?_, i⟩⟩⟩, fun c => absurd c (by omega)⟩, fun c => absurd c (by omega)⟩⟩⟩⟩⟩⟩⟩⟩
    have := (s3 k q3 (by omega)).1
    have : h 84 k = h 92 (60 * 1 + k) := this
    rw [this]
  · rw [upd2_ne (a := 6) (b := 90) (by decide), upd2_ne (a := 6) (b := 91) (by decide)]
    exact ⟨fun c => absurd c (by omega), fun _ => ⟨fun c => absurd c (by omega), fun _ => ⟨fun c => absurd c (by omega), fun _ => ⟨fun c => absurd c (by omega), fun _ => ⟨by omega, fun _ => ⟨fun c => absurd c (by omega), fun _ => ⟨rfl, fnd i (by omega)⟩⟩, fun c => absurd c (by omega)⟩⟩⟩⟩⟩
  · rw [upd2_ne (a := 6) (b := 90) (by decide), upd2_ne (a := 6) (b := 91) (by decide)]
    exact ⟨fun c => absurd c (by omega), fun _ => ⟨fun c => absurd c (by omega), fun _ => ⟨fun c => absurd c (by omega), fun _ => ⟨fun c => absurd c (by omega), fun _ => ⟨by omega, fun c => absurd c (by omega), fun _ => ⟨rfl, fnd i (by omega)⟩⟩⟩⟩⟩⟩
theorem sh_of_85 {h : HP} (i : Inv h) : I_sh 85 2 h := by
  have a := i.1.2.2.2.2.1
  first | exact a.1 | exact a.2.1 | exact a.2.2.1 | exact a.2.2.2
theorem sh_inv_85 {h h2 : HP} (i : Inv h) (F : Fr (fSh 85 2) h h2) (hi : I_sh 85 2 h2) : Inv h2 := by
  obtain ⟨⟨i1, i2, i3, i4, i5, i6, i7, i8⟩, nt⟩ := i
  refine ⟨⟨i1.fr F (fun a j c => by unfold fSh at c; unfold rSet; omega), i2.fr F (fun a j c => by unfold fSh at c; unfold rTel; omega), i3.fr i2.1.1.2.1 F (fun a j c => by unfold fSh at c; unfold rDer; omega), i4.fr F (fun a j c => by unfold fSh at c; omega), ?_, i6.fr F (fun a j c => by unfold fSh at c; unfold rC; omega), i7.fr F (fun a j c => by unfold fSh at c; unfold rO; omega), i8.fr F (fun a j c => by unfold fSh at c; unfold rL; omega)⟩, nt.fr2 F (fun a j c => by unfold fSh at c; omega)⟩
  refine ⟨?_, ?_, ?_, ?_⟩
  · first | exact hi | exact i5.1.fr F (fun a j c => by unfold fSh at c; unfold rSh; omega)
  · first | exact hi | exact i5.2.1.fr F (fun a j c => by unfold fSh at c; unfold rSh; omega)
  · first | exact hi | exact i5.2.2.1.fr F (fun a j c => by unfold fSh at c; unfold rSh; omega)
  · first | exact hi | exact i5.2.2.2.fr F (fun a j c => by unfold fSh at c; unfold rSh; omega)
-- sheet
theorem sheet_85 {h : HP} (i : Inv h) {f n : Int} (hf : 0 ≤ f ∧ f ≤ 2) (hn : 0 ≤ n ∧ n ≤ 60) : Wp X 1 223 0 [vr 85, vi f, vi n, vu] [] h (fun v h1 => v = none ∧ Wp X 2 53 0 [vr 89, vi 2, vi f, vi n, vu] [] h1 (fun r2 h2 => r2 = some (vi n) ∧ Inv h2)) := by
  have m : ∀ (k j : Nat) (h2 h1 : HP) (z : aV), (j : Int) + k = n → (∀ h3, Fr (fun a j => a = 92 ∧ 60 * 2 ≤ j ∧ j < 60 * 2 + 60) h1 h3 → (∀ q : Int, 0 ≤ q → q < n → h3 92 (60 * 2 + q) = 0) → Inv h3) → Fr (fun a j => a = 92 ∧ 60 * 2 ≤ j ∧ j < 60 * 2 + 60) h1 h2 → (∀ q : Int, 0 ≤ q → q < j → h2 92 (60 * 2 + q) = 0) → Wp X 2 53 55 [vr 89, vi 2, z, vi n, vi j] [] h2 (fun r2 h2 => r2 = some (vi n) ∧ Inv h2) := by
    intro k
    induction k with
    | zero =>
      intro j h2 h1 z hj H F q
      exact S53_89_55 _ _ _ _ ⟨fun _ => ⟨rfl, H h2 F (fun q' a c => q q' a (by omega))⟩, fun c => absurd c (by omega)⟩
    | succ k ih =>
      intro j h2 h1 z hj H F q
      refine S53_89_55 _ _ _ _ ⟨fun c => absurd c (by omega), fun _ => ⟨by unfold R32; omega, by unfold R32; omega, by omega, by unfold R32; omega, ih (j + 1) _ h1 z (by omega) H (F.up ⟨rfl, by omega, by omega⟩) (fun q' a c => ?_)⟩⟩
      rw [upd2_at]
      by_cases w : q' = j
      · rw [if_pos (by omega)]
      · rw [if_neg (by omega)]; exact q q' a (by omega)
  have L : ∀ (k j : Nat) (h1 : HP) (z1 z2 : aV), (j : Int) + k = n → Fr (fSh 85 2) h h1 → h1 85 1 = f → h1 85 2 = n → (∀ q : Int, 0 ≤ q → q < j → h1 86 q = 0) → Wp X 1 223 21 [vr 85, z1, z2, vi j] [] h1 (fun v h1 => v = none ∧ Wp X 2 53 0 [vr 89, vi 2, vi f, vi n, vu] [] h1 (fun r2 h2 => r2 = some (vi n) ∧ Inv h2)) := by
    intro k
    induction k with
    | zero =>
      intro j h1 z1 z2 hj F e1 e2 q
      refine S223_85_21 _ _ _ ⟨fun _ => ⟨rfl, T53_89_0 _ _ _ ?_⟩, fun c => absurd c (by rw [e2]; omega)⟩
      refine ⟨fun c => absurd c (by omega), fun _ => ⟨fun c => absurd c (by omega), fun _ => ⟨fun c => absurd c (by omega), fun _ => ⟨fun c => absurd c (by omega), fun _ => ⟨fun _ => ⟨fun _ => ⟨by omega, ?_⟩, fun c => absurd c (by omega)⟩, fun c => absurd c (by omega)⟩⟩⟩⟩⟩
      have F2 : Fr (fSh 85 2) h (upd2 (upd2 h1 90 2 f) 91 2 n) := (F.up (by unfold fSh; omega)).up (by unfold fSh; omega)
      refine m n.toNat 0 _ (upd2 (upd2 h1 90 2 f) 91 2 n) _ (by omega) (fun h3 F3 z => ?_) Fr.rf (fun q a c => absurd c (by omega))
      have g90 : h3 90 2 = f := by rw [F3 _ _ (by omega), upd2_ne (by decide), upd2_s]
      have g91 : h3 91 2 = n := by rw [F3 _ _ (by omega), upd2_s]
      refine sh_inv_85 i (F2.tr (F3.mo fun a j c => by unfold fSh; omega)) ⟨?_, by omega, by omega, by omega, by omega, fun _ => ⟨?_, fun q' a c => ?_⟩⟩
      · rw [g90, F3 _ _ (by omega), upd2_ne (by decide), upd2_ne (by decide)]; exact e1
      · rw [g91, F3 _ _ (by omega), upd2_ne (by decide), upd2_ne (by decide)]; exact e2
      · rw [g91] at c
        rw [z q' a c, F3 _ _ (by omega), upd2_ne (by decide), upd2_ne (by decide)]
        exact ⟨q q' a (by omega), by unfold R32; omega⟩
    | succ k ih =>
      intro j h1 z1 z2 hj F e1 e2 q
      refine S223_85_21 _ _ _ ⟨fun c => absurd c (by rw [e2]; omega), fun _ => ⟨by omega, ih (j + 1) _ _ _ (by omega) (F.up (by unfold fSh; omega)) ?_ ?_ (fun q' a c => ?_)⟩⟩
      · rw [upd2_ne (by decide)]; exact e1
      · rw [upd2_ne (by decide)]; exact e2
      · rw [upd2_at]
        by_cases w : q' = j
        · rw [if_pos w]
        · rw [if_neg w]; exact q q' a (by omega)
  have go : ∀ n', n' = n → Wp X 1 223 21 [vr 85, vi f, vi n, vi 0] [] (upd2 (upd2 h 85 1 f) 85 2 n') (fun v h1 => v = none ∧ Wp X 2 53 0 [vr 89, vi 2, vi f, vi n, vu] [] h1 (fun r2 h2 => r2 = some (vi n) ∧ Inv h2)) := by
    intro n' e
    rw [e]
    exact L n.toNat 0 _ _ _ (by omega) ((Fr.rf.up (by unfold fSh; omega)).up (by unfold fSh; omega)) (by rw [upd2_o (by decide), upd2_s]) upd2_s (fun q a c => absurd c (by omega))
  exact S223_85_0 _ _ ⟨fun c => absurd c (by omega), fun _ => ⟨fun _ => go n rfl, fun _ => go 0 (by omega)⟩⟩
-- lose
theorem lose_85 {h : HP} (i : Inv h) : (((h 85 1) ≠ (-1) → AgP X 2 54 [vr 89, vi 2] (some (vi (h 85 2))) (upd2 (upd2 h 85 1 (-1)) 85 2 0)) ∧ ((h 85 1) = (-1) → AgP X 2 54 [vr 89, vi 2] (some (vi (-11))) (upd2 h 6 10 1))) := by
  have s := sh_of_85 i
  have s1 := s.1
  have s2 := s.2.1
  refine ⟨fun q => ⟨h 85 2, rfl, T54_89_0 _ ?_⟩, fun q => ⟨-11, rfl, T54_89_0 _ ?_⟩⟩
  · rw [upd2_ne (a := 85) (b := 90) (by decide), upd2_ne (a := 85) (b := 91) (by decide), upd2_ne (a := 85) (b := 90) (by decide), upd2_ne (a := 85) (b := 91) (by decide)]
    refine ⟨fun c => absurd c (by omega), fun _ => ⟨fun c => absurd c (by omega), fun _ => ⟨by omega, fun q2 => ⟨by rw [(s.2.2.2.2.2 q2).1], ?_⟩, fun c => absurd c (by omega)⟩⟩⟩
    have F : Fr (fSh 85 2) h (upd2 (upd2 (upd2 h 85 1 (-1)) 85 2 0) 90 2 (-1)) := ((Fr.rf.up (by unfold fSh; omega)).up (by unfold fSh; omega)).up (by unfold fSh; omega)
    have e90 : (upd2 (upd2 (upd2 h 85 1 (-1)) 85 2 0) 90 2 (-1)) 90 2 = -1 := upd2_s
    have e91 : (upd2 (upd2 (upd2 h 85 1 (-1)) 85 2 0) 90 2 (-1)) 91 2 = h 91 2 := by rw [upd2_ne (by decide), upd2_ne (by decide), upd2_ne (by decide)]
    refine sh_inv_85 i F ⟨?_, by rw [e90]; omega, by rw [e90]; omega, by rw [e91]; exact s.2.2.2.1, by rw [e91]; exact s.2.2.2.2.1, fun c => absurd c (by rw [e90]; omega)⟩
    rw [e90, upd2_ne (by decide), upd2_o (by decide), upd2_s]
  · rw [upd2_ne (a := 6) (b := 90) (by decide)]
    exact ⟨fun c => absurd c (by omega), fun _ => ⟨fun c => absurd c (by omega), fun _ => ⟨by omega, fun c => absurd c (by omega), fun _ => ⟨rfl, fnd i (by omega)⟩⟩⟩⟩
-- an item is put
theorem put_85 {h : HP} (i : Inv h) {k v : Int} (hf : 0 ≤ h 90 2) (hk : 0 ≤ k ∧ k < h 91 2) (hv : R32 v) : Inv (upd2 (upd2 h 86 k v) 92 (60 * 2 + k) v) := by
  have s := sh_of_85 i
  have h60 := s.2.2.2.2.1
  obtain ⟨s2, s3⟩ := s.2.2.2.2.2 hf
  refine sh_inv_85 i ((Fr.rf.up (by unfold fSh; omega)).up (by unfold fSh; omega)) ?_
  unfold I_sh
  rw [upd2_ne (a := 92) (b := 85) (by decide), upd2_ne (a := 86) (b := 85) (by decide), upd2_ne (a := 92) (b := 90) (by decide), upd2_ne (a := 86) (b := 90) (by decide), upd2_ne (a := 92) (b := 91) (by decide), upd2_ne (a := 86) (b := 91) (by decide)]
  refine ⟨s.1, s.2.1, s.2.2.1, s.2.2.2.1, s.2.2.2.2.1, fun _ => ⟨s2, fun q a c => ?_⟩⟩
  rw [upd2_ne (a := 92) (b := 85 + 1) (by decide), upd2_at (a := 92), upd2_ne (a := 86) (b := 92) (by decide), upd2_at (a := 86)]
  by_cases w : q = k
  · rw [if_pos w, if_pos (by omega)]; exact ⟨rfl, hv⟩
  · rw [if_neg w, if_neg (by omega)]; exact s3 q a c
-- lay
theorem lay_85 {h : HP} (i : Inv h) {f k v : Int} (hff : 0 ≤ f ∧ f ≤ 2) (hv : R32 v) : (((h 85 1) ≠ (-1) → (((h 85 1) = f → ((k < 0 → AgP X 2 57 [vr 89, vi 2, vi f, vi k, vi v, vu] (some (vi (-12))) (upd2 h 6 10 2)) ∧ (0 ≤ k → ((R32 ((h 85 2) - 1)) ∧ ((((h 85 2) - 1) < k → AgP X 2 57 [vr 89, vi 2, vi f, vi k, vi v, vu] (some (vi (-12))) (upd2 h 6 10 2)) ∧ (k ≤ ((h 85 2) - 1) → (((h 85 1) ≠ 0 → (((h 85 1) ≠ 1 → ((0 ≤ k ∧ k < 60) ∧ AgP X 2 57 [vr 89, vi 2, vi f, vi k, vi v, vu] (some (vi 1)) (upd2 h 86 k v))) ∧ ((h 85 1) = 1 → ((0 ≤ k ∧ k < 60) ∧ AgP X 2 57 [vr 89, vi 2, vi f, vi k, vi v, vu] (some (vi 1)) (upd2 h 86 k (Int.bmod v 65536)))))) ∧ ((h 85 1) = 0 → ((0 ≤ k ∧ k < 60) ∧ AgP X 2 57 [vr 89, vi 2, vi f, vi k, vi v, vu] (some (vi 1)) (upd2 h 86 k (Int.bmod v 256))))))))))) ∧ ((h 85 1) ≠ f → AgP X 2 57 [vr 89, vi 2, vi f, vi k, vi v, vu] (some (vi (-13))) (upd2 h 6 10 3)))) ∧ ((h 85 1) = (-1) → AgP X 2 57 [vr 89, vi 2, vi f, vi k, vi v, vu] (some (vi (-11))) (upd2 h 6 10 1))) := by
  have s := sh_of_85 i
  have s1 := s.1
  have s2 := s.2.1
  have s4 := s.2.2.2.1
  have s5 := s.2.2.2.2.1
  refine ⟨fun q => ⟨fun q2 => ?_, fun q2 => ⟨-13, rfl, T57_89_0 _ _ _ _ ?_⟩⟩, fun q => ⟨-11, rfl, T57_89_0 _ _ _ _ ?_⟩⟩
  · have hf : 0 ≤ h 90 2 := by omega
    obtain ⟨e2, s3⟩ := s.2.2.2.2.2 hf
    rw [e2]
    have bad : (k < 0 ∨ h 91 2 - 1 < k) → AgP X 2 57 [vr 89, vi 2, vi f, vi k, vi v, vu] (some (vi (-12))) (upd2 h 6 10 2) := by
      intro q3
      refine ⟨-12, rfl, T57_89_0 _ _ _ _ ?_⟩
      rw [upd2_ne (a := 6) (b := 90) (by decide), upd2_ne (a := 6) (b := 91) (by decide)]
      exact ⟨fun c => absurd c (by omega), fun _ => ⟨fun c => absurd c (by omega), fun _ => ⟨fun c => absurd c (by omega), fun _ => ⟨fun c => absurd c (by omega), fun _ => ⟨by omega, fun _ => ⟨fun _ => ⟨by unfold R32; omega, fun _ => ⟨rfl, fnd i (by omega)⟩, fun c1 => ⟨fun _ => ⟨rfl, fnd i (by omega)⟩, fun c2 => absurd q3 (by omega)⟩⟩, fun c => absurd c (by omega)⟩, fun c => absurd c (by omega)⟩⟩⟩⟩⟩
    refine ⟨fun q3 => bad (.inl q3), fun q3 => ⟨by unfold R32; omega, fun q4 => bad (.inr q4), fun q4 => ?_⟩⟩
    have good : ∀ v', R32 v' → ((f ≠ 0 → ((f ≠ 1 → v' = v) ∧ (f = 1 → v' = Int.bmod v 65536))) ∧ (f = 0 → v' = Int.bmod v 256)) → ((0 ≤ k ∧ k < 60) ∧ AgP X 2 57 [vr 89, vi 2, vi f, vi k, vi v, vu] (some (vi 1)) (upd2 h 86 k v')) := by
      intro v' hv' e
      have p := put_85 i hf (k := k) (v := v') ⟨q3, by omega⟩ hv'
      refine ⟨⟨q3, by omega⟩, 1, rfl, T57_89_0 _ _ _ _ ?_⟩
      rw [upd2_ne (a := 86) (b := 90) (by decide), upd2_ne (a := 86) (b := 91) (by decide)]
      exact ⟨fun c => absurd c (by omega), fun _ => ⟨fun c => absurd c (by omega), fun _ => ⟨fun c => absurd c (by omega), fun _ => ⟨fun c => absurd c (by omega), fun _ => ⟨by omega, fun _ => ⟨fun _ => ⟨by unfold R32; omega, fun c => absurd c (by omega), fun _ => ⟨fun c => absurd c (by omega), fun _ => ⟨by unfold R32; omega, fun c1 => ⟨fun c2 => ⟨by omega, rfl, by rw [← (e.1 c1).1 c2]; exact p⟩, fun c2 => ⟨by omega, rfl, by rw [← (e.1 c1).2 c2]; exact p⟩⟩, fun c1 => ⟨by omega, rfl, by rw [← e.2 c1]; exact p⟩⟩⟩⟩, fun c => absurd c (by omega)⟩, fun c => absurd c (by omega)⟩⟩⟩⟩⟩
    exact ⟨fun q5 => ⟨fun q6 => good v hv ⟨fun _ => ⟨fun _ => rfl, fun c => absurd c (by omega)⟩, fun c => absurd c (by omega)⟩, fun q6 => good _ (R32_b (m := 65536) (.inr rfl)) ⟨fun _ => ⟨fun c => absurd c (by omega), fun _ => rfl⟩, fun c => absurd c (by omega)⟩⟩, fun q5 => good _ (R32_b (m := 256) (.inl rfl)) ⟨fun c => absurd c (by omega), fun _ => rfl⟩⟩
  · rw [upd2_ne (a := 6) (b := 90) (by decide), upd2_ne (a := 6) (b := 91) (by decide)]
    exact ⟨fun c => absurd c (by omega), fun _ => ⟨fun c => absurd c (by omega), fun _ => ⟨fun c => absurd c (by omega), fun _ => ⟨fun c => absurd c (by omega), fun _ => ⟨by omega, fun _ => ⟨fun c => absurd c (by omega), fun _ => ⟨rfl, fnd i (by omega)⟩⟩, fun c => absurd c (by omega)⟩⟩⟩⟩⟩
  · rw [upd2_ne (a := 6) (b := 90) (by decide), upd2_ne (a := 6) (b := 91) (by decide)]
    exact ⟨fun c => absurd c (by omega), fun _ => ⟨fun c => absurd c (by omega), fun _ => ⟨fun c => absurd c (by omega), fun _ => ⟨fun c => absurd c (by omega), fun _ => ⟨by omega, fun c => absurd c (by omega), fun _ => ⟨rfl, fnd i (by omega)⟩⟩⟩⟩⟩⟩
-- get
theorem get_85 {h : HP} (i : Inv h) {f k : Int} (hff : 0 ≤ f ∧ f ≤ 2) : (((h 85 1) ≠ (-1) → (((h 85 1) = f → ((k < 0 → AgP X 2 58 [vr 89, vi 2, vi f, vi k] (some (vi (-2147483648))) (upd2 h 6 10 2)) ∧ (0 ≤ k → ((R32 ((h 85 2) - 1)) ∧ ((((h 85 2) - 1) < k → AgP X 2 58 [vr 89, vi 2, vi f, vi k] (some (vi (-2147483648))) (upd2 h 6 10 2)) ∧ (k ≤ ((h 85 2) - 1) → ((0 ≤ k ∧ k < 60) ∧ AgP X 2 58 [vr 89, vi 2, vi f, vi k] (some (vi (h 86 k))) h))))))) ∧ ((h 85 1) ≠ f → AgP X 2 58 [vr 89, vi 2, vi f, vi k] (some (vi (-2147483648))) (upd2 h 6 10 3)))) ∧ ((h 85 1) = (-1) → AgP X 2 58 [vr 89, vi 2, vi f, vi k] (some (vi (-2147483648))) (upd2 h 6 10 1))) := by
  have s := sh_of_85 i
  have s1 := s.1
  have s2 := s.2.1
  have s4 := s.2.2.2.1
  have s5 := s.2.2.2.2.1
  refine ⟨fun q => ⟨fun q2 => ?_, fun q2 => ⟨-2147483648, rfl, T58_89_0 _ _ _ ?_⟩⟩, fun q => ⟨-2147483648, rfl, T58_89_0 _ _ _ ?_⟩⟩
  · have hf : 0 ≤ h 90 2 := by omega
    obtain ⟨e2, s3⟩ := s.2.2.2.2.2 hf
    rw [e2]
    have bad : (k < 0 ∨ h 91 2 - 1 < k) → AgP X 2 58 [vr 89, vi 2, vi f, vi k] (some (vi (-2147483648))) (upd2 h 6 10 2) := by
      intro q3
      refine ⟨-2147483648, rfl, T58_89_0 _ _ _ ?_⟩
      rw [upd2_ne (a := 6) (b := 90) (by decide), upd2_ne (a := 6) (b := 91) (by decide)]
      exact ⟨fun c => absurd c (by omega), fun _ => ⟨fun c => absurd c (by omega), fun _ => ⟨fun c => absurd c (by omega), fun _ => ⟨fun c => absurd c (by omega), fun _ => ⟨by omega, fun _ => ⟨fun _ => ⟨by unfold R32; omega, fun _ => ⟨rfl, fnd i (by omega)⟩, fun c1 => ⟨fun _ => ⟨rfl, fnd i (by omega)⟩, fun c2 => absurd q3 (by omega)⟩⟩, fun c => absurd c (by omega)⟩, fun c => absurd c (by omega)⟩⟩⟩⟩⟩
    refine ⟨fun q3 => bad (.inl q3), fun q3 => ⟨by unfold R32; omega, fun q4 => bad (.inr q4), fun q4 => ⟨⟨q3, by omega⟩, h 86 k, rfl, T58_89_0 _ _ _ ⟨fun c => absurd c (by omega), fun _ => ⟨fun c => absurd c (by omega), fun _ => ⟨fun c => absurd c (by omega), fun _ => ⟨fun c => absurd c (by omega), fun _ => ⟨by omega, fun _ => ⟨fun _ => ⟨by unfold R32; omega, fun c => absurd c (by omega), fun _ => ⟨fun c => absurd c (by omega), fun _ => ⟨by unfold R32; omega, by omega, ?_, i⟩⟩⟩, fun c => absurd c (by omega)⟩, fun c => absurd c (by omega)⟩⟩⟩⟩⟩⟩⟩⟩
    have := (s3 k q3 (by omega)).1
    have : h 86 k = h 92 (60 * 2 + k) := this
    rw [this]
  · rw [upd2_ne (a := 6) (b := 90) (by decide), upd2_ne (a := 6) (b := 91) (by decide)]
    exact ⟨fun c => absurd c (by omega), fun _ => ⟨fun c => absurd c (by omega), fun _ => ⟨fun c => absurd c (by omega), fun _ => ⟨fun c => absurd c (by omega), fun _ => ⟨by omega, fun _ => ⟨fun c => absurd c (by omega), fun _ => ⟨rfl, fnd i (by omega)⟩⟩, fun c => absurd c (by omega)⟩⟩⟩⟩⟩
  · rw [upd2_ne (a := 6) (b := 90) (by decide), upd2_ne (a := 6) (b := 91) (by decide)]
    exact ⟨fun c => absurd c (by omega), fun _ => ⟨fun c => absurd c (by omega), fun _ => ⟨fun c => absurd c (by omega), fun _ => ⟨fun c => absurd c (by omega), fun _ => ⟨by omega, fun c => absurd c (by omega), fun _ => ⟨rfl, fnd i (by omega)⟩⟩⟩⟩⟩⟩
theorem sh_of_87 {h : HP} (i : Inv h) : I_sh 87 3 h := by
  have a := i.1.2.2.2.2.1
  first | exact a.1 | exact a.2.1 | exact a.2.2.1 | exact a.2.2.2
theorem sh_inv_87 {h h2 : HP} (i : Inv h) (F : Fr (fSh 87 3) h h2) (hi : I_sh 87 3 h2) : Inv h2 := by
  obtain ⟨⟨i1, i2, i3, i4, i5, i6, i7, i8⟩, nt⟩ := i
  refine ⟨⟨i1.fr F (fun a j c => by unfold fSh at c; unfold rSet; omega), i2.fr F (fun a j c => by unfold fSh at c; unfold rTel; omega), i3.fr i2.1.1.2.1 F (fun a j c => by unfold fSh at c; unfold rDer; omega), i4.fr F (fun a j c => by unfold fSh at c; omega), ?_, i6.fr F (fun a j c => by unfold fSh at c; unfold rC; omega), i7.fr F (fun a j c => by unfold fSh at c; unfold rO; omega), i8.fr F (fun a j c => by unfold fSh at c; unfold rL; omega)⟩, nt.fr2 F (fun a j c => by unfold fSh at c; omega)⟩
  refine ⟨?_, ?_, ?_, ?_⟩
  · first | exact hi | exact i5.1.fr F (fun a j c => by unfold fSh at c; unfold rSh; omega)
  · first | exact hi | exact i5.2.1.fr F (fun a j c => by unfold fSh at c; unfold rSh; omega)
  · first | exact hi | exact i5.2.2.1.fr F (fun a j c => by unfold fSh at c; unfold rSh; omega)
  · first | exact hi | exact i5.2.2.2.fr F (fun a j c => by unfold fSh at c; unfold rSh; omega)
-- sheet
theorem sheet_87 {h : HP} (i : Inv h) {f n : Int} (hf : 0 ≤ f ∧ f ≤ 2) (hn : 0 ≤ n ∧ n ≤ 60) : Wp X 1 223 0 [vr 87, vi f, vi n, vu] [] h (fun v h1 => v = none ∧ Wp X 2 53 0 [vr 89, vi 3, vi f, vi n, vu] [] h1 (fun r2 h2 => r2 = some (vi n) ∧ Inv h2)) := by
  have m : ∀ (k j : Nat) (h2 h1 : HP) (z : aV), (j : Int) + k = n → (∀ h3, Fr (fun a j => a = 92 ∧ 60 * 3 ≤ j ∧ j < 60 * 3 + 60) h1 h3 → (∀ q : Int, 0 ≤ q → q < n → h3 92 (60 * 3 + q) = 0) → Inv h3) → Fr (fun a j => a = 92 ∧ 60 * 3 ≤ j ∧ j < 60 * 3 + 60) h1 h2 → (∀ q : Int, 0 ≤ q → q < j → h2 92 (60 * 3 + q) = 0) → Wp X 2 53 55 [vr 89, vi 3, z, vi n, vi j] [] h2 (fun r2 h2 => r2 = some (vi n) ∧ Inv h2) := by
    intro k
    induction k with
    | zero =>
      intro j h2 h1 z hj H F q
      exact S53_89_55 _ _ _ _ ⟨fun _ => ⟨rfl, H h2 F (fun q' a c => q q' a (by omega))⟩, fun c => absurd c (by omega)⟩
    | succ k ih =>
      intro j h2 h1 z hj H F q
      refine S53_89_55 _ _ _ _ ⟨fun c => absurd c (by omega), fun _ => ⟨by unfold R32; omega, by unfold R32; omega, by omega, by unfold R32; omega, ih (j + 1) _ h1 z (by omega) H (F.up ⟨rfl, by omega, by omega⟩) (fun q' a c => ?_)⟩⟩
      rw [upd2_at]
      by_cases w : q' = j
      · rw [if_pos (by omega)]
      · rw [if_neg (by omega)]; exact q q' a (by omega)
  have L : ∀ (k j : Nat) (h1 : HP) (z1 z2 : aV), (j : Int) + k = n → Fr (fSh 87 3) h h1 → h1 87 1 = f → h1 87 2 = n → (∀ q : Int, 0 ≤ q → q < j → h1 88 q = 0) → Wp X 1 223 21 [vr 87, z1, z2, vi j] [] h1 (fun v h1 => v = none ∧ Wp X 2 53 0 [vr 89, vi 3, vi f, vi n, vu] [] h1 (fun r2 h2 => r2 = some (vi n) ∧ Inv h2)) := by
    intro k
    induction k with
    | zero =>
      intro j h1 z1 z2 hj F e1 e2 q
      refine S223_87_21 _ _ _ ⟨fun _ => ⟨rfl, T53_89_0 _ _ _ ?_⟩, fun c => absurd c (by rw [e2]; omega)⟩
      refine ⟨fun c => absurd c (by omega), fun _ => ⟨fun c => absurd c (by omega), fun _ => ⟨fun c => absurd c (by omega), fun _ => ⟨fun c => absurd c (by omega), fun _ => ⟨fun _ => ⟨fun _ => ⟨by omega, ?_⟩, fun c => absurd c (by omega)⟩, fun c => absurd c (by omega)⟩⟩⟩⟩⟩
      have F2 : Fr (fSh 87 3) h (upd2 (upd2 h1 90 3 f) 91 3 n) := (F.up (by unfold fSh; omega)).up (by unfold fSh; omega)
      refine m n.toNat 0 _ (upd2 (upd2 h1 90 3 f) 91 3 n) _ (by omega) (fun h3 F3 z => ?_) Fr.rf (fun q a c => absurd c (by omega))
      have g90 : h3 90 3 = f := by rw [F3 _ _ (by omega), upd2_ne (by decide), upd2_s]
      have g91 : h3 91 3 = n := by rw [F3 _ _ (by omega), upd2_s]
      refine sh_inv_87 i (F2.tr (F3.mo fun a j c => by unfold fSh; omega)) ⟨?_, by omega, by omega, by omega, by omega, fun _ => ⟨?_, fun q' a c => ?_⟩⟩
      · rw [g90, F3 _ _ (by omega), upd2_ne (by decide), upd2_ne (by decide)]; exact e1
      · rw [g91, F3 _ _ (by omega), upd2_ne (by decide), upd2_ne (by decide)]; exact e2
      · rw [g91] at c
        rw [z q' a c, F3 _ _ (by omega), upd2_ne (by decide), upd2_ne (by decide)]
        exact ⟨q q' a (by omega), by unfold R32; omega⟩
    | succ k ih =>
      intro j h1 z1 z2 hj F e1 e2 q
      refine S223_87_21 _ _ _ ⟨fun c => absurd c (by rw [e2]; omega), fun _ => ⟨by omega, ih (j + 1) _ _ _ (by omega) (F.up (by unfold fSh; omega)) ?_ ?_ (fun q' a c => ?_)⟩⟩
      · rw [upd2_ne (by decide)]; exact e1
      · rw [upd2_ne (by decide)]; exact e2
      · rw [upd2_at]
        by_cases w : q' = j
        · rw [if_pos w]
        · rw [if_neg w]; exact q q' a (by omega)
  have go : ∀ n', n' = n → Wp X 1 223 21 [vr 87, vi f, vi n, vi 0] [] (upd2 (upd2 h 87 1 f) 87 2 n') (fun v h1 => v = none ∧ Wp X 2 53 0 [vr 89, vi 3, vi f, vi n, vu] [] h1 (fun r2 h2 => r2 = some (vi n) ∧ Inv h2)) := by
    intro n' e
    rw [e]
    exact L n.toNat 0 _ _ _ (by omega) ((Fr.rf.up (by unfold fSh; omega)).up (by unfold fSh; omega)) (by rw [upd2_o (by decide), upd2_s]) upd2_s (fun q a c => absurd c (by omega))
  exact S223_87_0 _ _ ⟨fun c => absurd c (by omega), fun _ => ⟨fun _ => go n rfl, fun _ => go 0 (by omega)⟩⟩
-- lose
theorem lose_87 {h : HP} (i : Inv h) : (((h 87 1) ≠ (-1) → AgP X 2 54 [vr 89, vi 3] (some (vi (h 87 2))) (upd2 (upd2 h 87 1 (-1)) 87 2 0)) ∧ ((h 87 1) = (-1) → AgP X 2 54 [vr 89, vi 3] (some (vi (-11))) (upd2 h 6 10 1))) := by
  have s := sh_of_87 i
  have s1 := s.1
  have s2 := s.2.1
  refine ⟨fun q => ⟨h 87 2, rfl, T54_89_0 _ ?_⟩, fun q => ⟨-11, rfl, T54_89_0 _ ?_⟩⟩
  · rw [upd2_ne (a := 87) (b := 90) (by decide), upd2_ne (a := 87) (b := 91) (by decide), upd2_ne (a := 87) (b := 90) (by decide), upd2_ne (a := 87) (b := 91) (by decide)]
    refine ⟨fun c => absurd c (by omega), fun _ => ⟨fun c => absurd c (by omega), fun _ => ⟨by omega, fun q2 => ⟨by rw [(s.2.2.2.2.2 q2).1], ?_⟩, fun c => absurd c (by omega)⟩⟩⟩
    have F : Fr (fSh 87 3) h (upd2 (upd2 (upd2 h 87 1 (-1)) 87 2 0) 90 3 (-1)) := ((Fr.rf.up (by unfold fSh; omega)).up (by unfold fSh; omega)).up (by unfold fSh; omega)
    have e90 : (upd2 (upd2 (upd2 h 87 1 (-1)) 87 2 0) 90 3 (-1)) 90 3 = -1 := upd2_s
    have e91 : (upd2 (upd2 (upd2 h 87 1 (-1)) 87 2 0) 90 3 (-1)) 91 3 = h 91 3 := by rw [upd2_ne (by decide), upd2_ne (by decide), upd2_ne (by decide)]
    refine sh_inv_87 i F ⟨?_, by rw [e90]; omega, by rw [e90]; omega, by rw [e91]; exact s.2.2.2.1, by rw [e91]; exact s.2.2.2.2.1, fun c => absurd c (by rw [e90]; omega)⟩
    rw [e90, upd2_ne (by decide), upd2_o (by decide), upd2_s]
  · rw [upd2_ne (a := 6) (b := 90) (by decide)]
    exact ⟨fun c => absurd c (by omega), fun _ => ⟨fun c => absurd c (by omega), fun _ => ⟨by omega, fun c => absurd c (by omega), fun _ => ⟨rfl, fnd i (by omega)⟩⟩⟩⟩
-- an item is put
theorem put_87 {h : HP} (i : Inv h) {k v : Int} (hf : 0 ≤ h 90 3) (hk : 0 ≤ k ∧ k < h 91 3) (hv : R32 v) : Inv (upd2 (upd2 h 88 k v) 92 (60 * 3 + k) v) := by
  have s := sh_of_87 i
  have h60 := s.2.2.2.2.1
  obtain ⟨s2, s3⟩ := s.2.2.2.2.2 hf
  refine sh_inv_87 i ((Fr.rf.up (by unfold fSh; omega)).up (by unfold fSh; omega)) ?_
  unfold I_sh
  rw [upd2_ne (a := 92) (b := 87) (by decide), upd2_ne (a := 88) (b := 87) (by decide), upd2_ne (a := 92) (b := 90) (by decide), upd2_ne (a := 88) (b := 90) (by decide), upd2_ne (a := 92) (b := 91) (by decide), upd2_ne (a := 88) (b := 91) (by decide)]
  refine ⟨s.1, s.2.1, s.2.2.1, s.2.2.2.1, s.2.2.2.2.1, fun _ => ⟨s2, fun q a c => ?_⟩⟩
  rw [upd2_ne (a := 92) (b := 87 + 1) (by decide), upd2_at (a := 92), upd2_ne (a := 88) (b := 92) (by decide), upd2_at (a := 88)]
  by_cases w : q = k
  · rw [if_pos w, if_pos (by omega)]; exact ⟨rfl, hv⟩
  · rw [if_neg w, if_neg (by omega)]; exact s3 q a c
-- lay
theorem lay_87 {h : HP} (i : Inv h) {f k v : Int} (hff : 0 ≤ f ∧ f ≤ 2) (hv : R32 v) : (((h 87 1) ≠ (-1) → (((h 87 1) = f → ((k < 0 → AgP X 2 57 [vr 89, vi 3, vi f, vi k, vi v, vu] (some (vi (-12))) (upd2 h 6 10 2)) ∧ (0 ≤ k → ((R32 ((h 87 2) - 1)) ∧ ((((h 87 2) - 1) < k → AgP X 2 57 [vr 89, vi 3, vi f, vi k, vi v, vu] (some (vi (-12))) (upd2 h 6 10 2)) ∧ (k ≤ ((h 87 2) - 1) → (((h 87 1) ≠ 0 → (((h 87 1) ≠ 1 → ((0 ≤ k ∧ k < 60) ∧ AgP X 2 57 [vr 89, vi 3, vi f, vi k, vi v, vu] (some (vi 1)) (upd2 h 88 k v))) ∧ ((h 87 1) = 1 → ((0 ≤ k ∧ k < 60) ∧ AgP X 2 57 [vr 89, vi 3, vi f, vi k, vi v, vu] (some (vi 1)) (upd2 h 88 k (Int.bmod v 65536)))))) ∧ ((h 87 1) = 0 → ((0 ≤ k ∧ k < 60) ∧ AgP X 2 57 [vr 89, vi 3, vi f, vi k, vi v, vu] (some (vi 1)) (upd2 h 88 k (Int.bmod v 256))))))))))) ∧ ((h 87 1) ≠ f → AgP X 2 57 [vr 89, vi 3, vi f, vi k, vi v, vu] (some (vi (-13))) (upd2 h 6 10 3)))) ∧ ((h 87 1) = (-1) → AgP X 2 57 [vr 89, vi 3, vi f, vi k, vi v, vu] (some (vi (-11))) (upd2 h 6 10 1))) := by
  have s := sh_of_87 i
  have s1 := s.1
  have s2 := s.2.1
  have s4 := s.2.2.2.1
  have s5 := s.2.2.2.2.1
  refine ⟨fun q => ⟨fun q2 => ?_, fun q2 => ⟨-13, rfl, T57_89_0 _ _ _ _ ?_⟩⟩, fun q => ⟨-11, rfl, T57_89_0 _ _ _ _ ?_⟩⟩
  · have hf : 0 ≤ h 90 3 := by omega
    obtain ⟨e2, s3⟩ := s.2.2.2.2.2 hf
    rw [e2]
    have bad : (k < 0 ∨ h 91 3 - 1 < k) → AgP X 2 57 [vr 89, vi 3, vi f, vi k, vi v, vu] (some (vi (-12))) (upd2 h 6 10 2) := by
      intro q3
      refine ⟨-12, rfl, T57_89_0 _ _ _ _ ?_⟩
      rw [upd2_ne (a := 6) (b := 90) (by decide), upd2_ne (a := 6) (b := 91) (by decide)]
      exact ⟨fun c => absurd c (by omega), fun _ => ⟨fun c => absurd c (by omega), fun _ => ⟨fun c => absurd c (by omega), fun _ => ⟨fun c => absurd c (by omega), fun _ => ⟨by omega, fun _ => ⟨fun _ => ⟨by unfold R32; omega, fun _ => ⟨rfl, fnd i (by omega)⟩, fun c1 => ⟨fun _ => ⟨rfl, fnd i (by omega)⟩, fun c2 => absurd q3 (by omega)⟩⟩, fun c => absurd c (by omega)⟩, fun c => absurd c (by omega)⟩⟩⟩⟩⟩
    refine ⟨fun q3 => bad (.inl q3), fun q3 => ⟨by unfold R32; omega, fun q4 => bad (.inr q4), fun q4 => ?_⟩⟩
    have good : ∀ v', R32 v' → ((f ≠ 0 → ((f ≠ 1 → v' = v) ∧ (f = 1 → v' = Int.bmod v 65536))) ∧ (f = 0 → v' = Int.bmod v 256)) → ((0 ≤ k ∧ k < 60) ∧ AgP X 2 57 [vr 89, vi 3, vi f, vi k, vi v, vu] (some (vi 1)) (upd2 h 88 k v')) := by
      intro v' hv' e
      have p := put_87 i hf (k := k) (v := v') ⟨q3, by omega⟩ hv'
      refine ⟨⟨q3, by omega⟩, 1, rfl, T57_89_0 _ _ _ _ ?_⟩
      rw [upd2_ne (a := 88) (b := 90) (by decide), upd2_ne (a := 88) (b := 91) (by decide)]
      exact ⟨fun c => absurd c (by omega), fun _ => ⟨fun c => absurd c (by omega), fun _ => ⟨fun c => absurd c (by omega), fun _ => ⟨fun c => absurd c (by omega), fun _ => ⟨by omega, fun _ => ⟨fun _ => ⟨by unfold R32; omega, fun c => absurd c (by omega), fun _ => ⟨fun c => absurd c (by omega), fun _ => ⟨by unfold R32; omega, fun c1 => ⟨fun c2 => ⟨by omega, rfl, by rw [← (e.1 c1).1 c2]; exact p⟩, fun c2 => ⟨by omega, rfl, by rw [← (e.1 c1).2 c2]; exact p⟩⟩, fun c1 => ⟨by omega, rfl, by rw [← e.2 c1]; exact p⟩⟩⟩⟩, fun c => absurd c (by omega)⟩, fun c => absurd c (by omega)⟩⟩⟩⟩⟩
    exact ⟨fun q5 => ⟨fun q6 => good v hv ⟨fun _ => ⟨fun _ => rfl, fun c => absurd c (by omega)⟩, fun c => absurd c (by omega)⟩, fun q6 => good _ (R32_b (m := 65536) (.inr rfl)) ⟨fun _ => ⟨fun c => absurd c (by omega), fun _ => rfl⟩, fun c => absurd c (by omega)⟩⟩, fun q5 => good _ (R32_b (m := 256) (.inl rfl)) ⟨fun c => absurd c (by omega), fun _ => rfl⟩⟩
  · rw [upd2_ne (a := 6) (b := 90) (by decide), upd2_ne (a := 6) (b := 91) (by decide)]
    exact ⟨fun c => absurd c (by omega), fun _ => ⟨fun c => absurd c (by omega), fun _ => ⟨fun c => absurd c (by omega), fun _ => ⟨fun c => absurd c (by omega), fun _ => ⟨by omega, fun _ => ⟨fun c => absurd c (by omega), fun _ => ⟨rfl, fnd i (by omega)⟩⟩, fun c => absurd c (by omega)⟩⟩⟩⟩⟩
  · rw [upd2_ne (a := 6) (b := 90) (by decide), upd2_ne (a := 6) (b := 91) (by decide)]
    exact ⟨fun c => absurd c (by omega), fun _ => ⟨fun c => absurd c (by omega), fun _ => ⟨fun c => absurd c (by omega), fun _ => ⟨fun c => absurd c (by omega), fun _ => ⟨by omega, fun c => absurd c (by omega), fun _ => ⟨rfl, fnd i (by omega)⟩⟩⟩⟩⟩⟩
-- get
theorem get_87 {h : HP} (i : Inv h) {f k : Int} (hff : 0 ≤ f ∧ f ≤ 2) : (((h 87 1) ≠ (-1) → (((h 87 1) = f → ((k < 0 → AgP X 2 58 [vr 89, vi 3, vi f, vi k] (some (vi (-2147483648))) (upd2 h 6 10 2)) ∧ (0 ≤ k → ((R32 ((h 87 2) - 1)) ∧ ((((h 87 2) - 1) < k → AgP X 2 58 [vr 89, vi 3, vi f, vi k] (some (vi (-2147483648))) (upd2 h 6 10 2)) ∧ (k ≤ ((h 87 2) - 1) → ((0 ≤ k ∧ k < 60) ∧ AgP X 2 58 [vr 89, vi 3, vi f, vi k] (some (vi (h 88 k))) h))))))) ∧ ((h 87 1) ≠ f → AgP X 2 58 [vr 89, vi 3, vi f, vi k] (some (vi (-2147483648))) (upd2 h 6 10 3)))) ∧ ((h 87 1) = (-1) → AgP X 2 58 [vr 89, vi 3, vi f, vi k] (some (vi (-2147483648))) (upd2 h 6 10 1))) := by
  have s := sh_of_87 i
  have s1 := s.1
  have s2 := s.2.1
  have s4 := s.2.2.2.1
  have s5 := s.2.2.2.2.1
  refine ⟨fun q => ⟨fun q2 => ?_, fun q2 => ⟨-2147483648, rfl, T58_89_0 _ _ _ ?_⟩⟩, fun q => ⟨-2147483648, rfl, T58_89_0 _ _ _ ?_⟩⟩
  · have hf : 0 ≤ h 90 3 := by omega
    obtain ⟨e2, s3⟩ := s.2.2.2.2.2 hf
    rw [e2]
    have bad : (k < 0 ∨ h 91 3 - 1 < k) → AgP X 2 58 [vr 89, vi 3, vi f, vi k] (some (vi (-2147483648))) (upd2 h 6 10 2) := by
      intro q3
      refine ⟨-2147483648, rfl, T58_89_0 _ _ _ ?_⟩
      rw [upd2_ne (a := 6) (b := 90) (by decide), upd2_ne (a := 6) (b := 91) (by decide)]
      exact ⟨fun c => absurd c (by omega), fun _ => ⟨fun c => absurd c (by omega), fun _ => ⟨fun c => absurd c (by omega), fun _ => ⟨fun c => absurd c (by omega), fun _ => ⟨by omega, fun _ => ⟨fun _ => ⟨by unfold R32; omega, fun _ => ⟨rfl, fnd i (by omega)⟩, fun c1 => ⟨fun _ => ⟨rfl, fnd i (by omega)⟩, fun c2 => absurd q3 (by omega)⟩⟩, fun c => absurd c (by omega)⟩, fun c => absurd c (by omega)⟩⟩⟩⟩⟩
    refine ⟨fun q3 => bad (.inl q3), fun q3 => ⟨by unfold R32; omega, fun q4 => bad (.inr q4), fun q4 => ⟨⟨q3, by omega⟩, h 88 k, rfl, T58_89_0 _ _ _ ⟨fun c => absurd c (by omega), fun _ => ⟨fun c => absurd c (by omega), fun _ => ⟨fun c => absurd c (by omega), fun _ => ⟨fun c => absurd c (by omega), fun _ => ⟨by omega, fun _ => ⟨fun _ => ⟨by unfold R32; omega, fun c => absurd c (by omega), fun _ => ⟨fun c => absurd c (by omega), fun _ => ⟨by unfold R32; omega, by omega, ?_, i⟩⟩⟩, fun c => absurd c (by omega)⟩, fun c => absurd c (by omega)⟩⟩⟩⟩⟩⟩⟩⟩
    have := (s3 k q3 (by omega)).1
    have : h 88 k = h 92 (60 * 3 + k) := this
    rw [this]
  · rw [upd2_ne (a := 6) (b := 90) (by decide), upd2_ne (a := 6) (b := 91) (by decide)]
    exact ⟨fun c => absurd c (by omega), fun _ => ⟨fun c => absurd c (by omega), fun _ => ⟨fun c => absurd c (by omega), fun _ => ⟨fun c => absurd c (by omega), fun _ => ⟨by omega, fun _ => ⟨fun c => absurd c (by omega), fun _ => ⟨rfl, fnd i (by omega)⟩⟩, fun c => absurd c (by omega)⟩⟩⟩⟩⟩
  · rw [upd2_ne (a := 6) (b := 90) (by decide), upd2_ne (a := 6) (b := 91) (by decide)]
    exact ⟨fun c => absurd c (by omega), fun _ => ⟨fun c => absurd c (by omega), fun _ => ⟨fun c => absurd c (by omega), fun _ => ⟨fun c => absurd c (by omega), fun _ => ⟨by omega, fun c => absurd c (by omega), fun _ => ⟨rfl, fnd i (by omega)⟩⟩⟩⟩⟩⟩
theorem a24 (y1 y2 y3 : Int) : Ag X Inv 2 24 2 53 vi [vr 6, vi y1, vi y2, vi y3] [vr 89, vi y1, vi y2, vi y3, vu] := by
  intro h i
  have bad : ¬ (0 ≤ y1 ∧ y1 ≤ 3 ∧ 0 ≤ y2 ∧ y2 ≤ 2 ∧ y3 ≤ 60) → AgP X 2 53 [vr 89, vi y1, vi y2, vi y3, vu] (some (vi (-2))) h := fun q => ⟨-2, rfl, T53_89_0 _ _ _ ⟨fun _ => ⟨rfl, i⟩, fun a1 => ⟨fun _ => ⟨rfl, i⟩, fun a2 => ⟨fun _ => ⟨rfl, i⟩, fun a3 => ⟨fun _ => ⟨rfl, i⟩, fun a4 => ⟨fun a5 => absurd ⟨a1, a2, a3, a4, a5⟩ q, fun _ => ⟨rfl, i⟩⟩⟩⟩⟩⟩⟩
  show Wp X 2 24 0 [vr 6, vi y1, vi y2, vi y3] [] h (AgP X 2 53 [vr 89, vi y1, vi y2, vi y3, vu])
  refine S24_6_0 _ _ _ ⟨fun q => bad (by omega), fun a1 => ⟨fun a2 => ⟨fun q => bad (by omega), fun a3 => ⟨fun a4 => ⟨fun a5 => ⟨fun a6 => ⟨fun e => ?_, fun e => ?_, fun e => ?_, fun e => ?_⟩, fun a6 => ⟨-15, rfl, T53_89_0 _ _ _ ⟨fun c => absurd c (by omega), fun _ => ⟨fun c => absurd c (by omega), fun _ => ⟨fun c => absurd c (by omega), fun _ => ⟨fun c => absurd c (by omega), fun _ => ⟨fun _ => ⟨fun c => absurd c (by omega), fun _ => ⟨rfl, fnd i (by omega)⟩⟩, fun c => absurd c (by omega)⟩⟩⟩⟩⟩⟩⟩, fun q => bad (by omega)⟩, fun q => bad (by omega)⟩⟩, fun q => bad (by omega)⟩⟩
  · subst e
    refine (sheet_81 i ⟨a3, a4⟩ ⟨a6, a5⟩).mono fun v h1 _ f => ?_
    obtain ⟨rfl, f⟩ := f
    exact S24_6_48 _ _ _ _ ⟨y3, rfl, f⟩
  · subst e
    refine (sheet_83 i ⟨a3, a4⟩ ⟨a6, a5⟩).mono fun v h1 _ f => ?_
    obtain ⟨rfl, f⟩ := f
    exact S24_6_48 _ _ _ _ ⟨y3, rfl, f⟩
  · subst e
    refine (sheet_85 i ⟨a3, a4⟩ ⟨a6, a5⟩).mono fun v h1 _ f => ?_
    obtain ⟨rfl, f⟩ := f
    exact S24_6_48 _ _ _ _ ⟨y3, rfl, f⟩
  · subst e
    refine (sheet_87 i ⟨a3, a4⟩ ⟨a6, a5⟩).mono fun v h1 _ f => ?_
    obtain ⟨rfl, f⟩ := f
    exact S24_6_48 _ _ _ _ ⟨y3, rfl, f⟩
theorem a25 (y1 : Int) : Ag X Inv 1 25 2 54 vi [vr 6, vi y1, vu] [vr 89, vi y1] := by
  intro h i
  have bad : ¬ (0 ≤ y1 ∧ y1 ≤ 3) → AgP X 2 54 [vr 89, vi y1] (some (vi (-2))) h := fun q => ⟨-2, rfl, T54_89_0 _ ⟨fun _ => ⟨rfl, i⟩, fun a1 => ⟨fun _ => ⟨rfl, i⟩, fun a2 => absurd ⟨a1, a2⟩ q⟩⟩⟩
  show Wp X 1 25 0 [vr 6, vi y1, vu] [] h (AgP X 2 54 [vr 89, vi y1])
  refine S25_6_0 _ ⟨fun q => bad (by omega), fun a1 => ⟨fun a2 => ⟨fun e => ?_, fun e => ?_, fun e => ?_, fun e => ?_⟩, fun q => bad (by omega)⟩⟩
  · subst e; exact lose_81 i
  · subst e; exact lose_83 i
  · subst e; exact lose_85 i
  · subst e; exact lose_87 i
theorem a26 (y1 y2 y3 y4 : Int) (hv : R32 y4) : Ag X Inv 2 26 2 57 vi [vr 6, vi y1, vi y2, vi y3, vi y4, vu] [vr 89, vi y1, vi y2, vi y3, vi y4, vu] := by
  intro h i
  have bad : ¬ (0 ≤ y1 ∧ y1 ≤ 3 ∧ 0 ≤ y2 ∧ y2 ≤ 2) → AgP X 2 57 [vr 89, vi y1, vi y2, vi y3, vi y4, vu] (some (vi (-2))) h := fun q => ⟨-2, rfl, T57_89_0 _ _ _ _ ⟨fun _ => ⟨rfl, i⟩, fun a1 => ⟨fun _ => ⟨rfl, i⟩, fun a2 => ⟨fun _ => ⟨rfl, i⟩, fun a3 => ⟨fun _ => ⟨rfl, i⟩, fun a4 => absurd ⟨a1, a2, a3, a4⟩ q⟩⟩⟩⟩⟩
  show Wp X 2 26 0 [vr 6, vi y1, vi y2, vi y3, vi y4, vu] [] h (AgP X 2 57 [vr 89, vi y1, vi y2, vi y3, vi y4, vu])
  refine S26_6_0 _ _ _ _ ⟨fun q => bad (by omega), fun a1 => ⟨fun a2 => ⟨fun q => bad (by omega), fun a3 => ⟨fun a4 => ⟨fun e => ?_, fun e => ?_, fun e => ?_, fun e => ?_⟩, fun q => bad (by omega)⟩⟩, fun q => bad (by omega)⟩⟩
  · subst e; exact lay_81 i ⟨a3, a4⟩ hv
  · subst e; exact lay_83 i ⟨a3, a4⟩ hv
  · subst e; exact lay_85 i ⟨a3, a4⟩ hv
  · subst e; exact lay_87 i ⟨a3, a4⟩ hv
theorem a27 (y1 y2 y3 : Int) : Ag X Inv 2 27 2 58 vi [vr 6, vi y1, vi y2, vi y3, vu] [vr 89, vi y1, vi y2, vi y3] := by
  intro h i
  have bad : ¬ (0 ≤ y1 ∧ y1 ≤ 3 ∧ 0 ≤ y2 ∧ y2 ≤ 2) → AgP X 2 58 [vr 89, vi y1, vi y2, vi y3] (some (vi (-2147483648))) h := fun q => ⟨-2147483648, rfl, T58_89_0 _ _ _ ⟨fun _ => ⟨rfl, i⟩, fun a1 => ⟨fun _ => ⟨rfl, i⟩, fun a2 => ⟨fun _ => ⟨rfl, i⟩, fun a3 => ⟨fun _ => ⟨rfl, i⟩, fun a4 => absurd ⟨a1, a2, a3, a4⟩ q⟩⟩⟩⟩⟩
  show Wp X 2 27 0 [vr 6, vi y1, vi y2, vi y3, vu] [] h (AgP X 2 58 [vr 89, vi y1, vi y2, vi y3])
  refine S27_6_0 _ _ _ ⟨fun q => bad (by omega), fun a1 => ⟨fun a2 => ⟨fun q => bad (by omega), fun a3 => ⟨fun a4 => ⟨fun e => ?_, fun e => ?_, fun e => ?_, fun e => ?_⟩, fun q => bad (by omega)⟩⟩, fun q => bad (by omega)⟩⟩
  · subst e; exact get_81 i ⟨a3, a4⟩
  · subst e; exact get_83 i ⟨a3, a4⟩
  · subst e; exact get_85 i ⟨a3, a4⟩
  · subst e; exact get_87 i ⟨a3, a4⟩
end
