-- ===== copy agrees =====
def AgQ (X : Nat × (Int → Int)) (ρ2 m : Nat) (L2 : List aV) : bQ := AgP X ρ2 m L2
section
variable {X : Nat × (Int → Int)}
set_option maxHeartbeats 8000000 in
theorem a28 (y1 y2 y3 y4 y5 : Int) (r2 : R32 y2) (r4 : R32 y4) (r5 : R32 y5) : Ag X Inv 2 28 2 59 vi [vr 6, vi y1, vi y2, vi y3, vi y4, vi y5, vu, vu] [vr 89, vi y1, vi y2, vi y3, vi y4, vi y5, vu] := by
  intro h iv
  have bad : ¬ (0 ≤ y1 ∧ y1 ≤ 3 ∧ 0 ≤ y3 ∧ y3 ≤ 3) → AgP X 2 59 [vr 89, vi y1, vi y2, vi y3, vi y4, vi y5, vu] (some (vi (-2))) h := fun q => ⟨-2, rfl, T59_89_0 _ _ _ _ _ ⟨fun _ => ⟨rfl, iv⟩, fun a1 => ⟨fun _ => ⟨rfl, iv⟩, fun a2 => ⟨fun _ => ⟨rfl, iv⟩, fun a3 => ⟨fun _ => ⟨rfl, iv⟩, fun a4 => absurd ⟨a1, a2, a3, a4⟩ q⟩⟩⟩⟩⟩
  have fact : ∀ {S : Nat} {s : Int}, I_sh S s h → h S 1 = h 90 s ∧ (h 90 s = -1 ∨ (0 ≤ h 90 s ∧ h S 2 = h 91 s)) ∧ 0 ≤ h 91 s ∧ h 91 s ≤ 60 := fun {S s} x => ⟨x.1, by
    by_cases w : 0 ≤ h 90 s
    · exact .inr ⟨w, (x.2.2.2.2.2 w).1⟩
    · have := x.2.1; exact .inl (by omega), x.2.2.2.1, x.2.2.2.2.1⟩
  have s0 := sh_of_81 iv
  have s1 := sh_of_83 iv
  have s2 := sh_of_85 iv
  have s3 := sh_of_87 iv
  obtain ⟨u0, w0, x0, z0⟩ := fact s0
  obtain ⟨u1, w1, x1, z1⟩ := fact s1
  obtain ⟨u2, w2, x2, z2⟩ := fact s2
  obtain ⟨u3, w3, x3, z3⟩ := fact s3
  have r2' := r2
  have r4' := r4
  have r5' := r5
  unfold R32 at r2' r4' r5'
  show Wp X 2 28 0 [vr 6, vi y1, vi y2, vi y3, vi y4, vi y5, vu, vu] [] h (AgQ X 2 59 [vr 89, vi y1, vi y2, vi y3, vi y4, vi y5, vu])
  refine S28_6_0 _ _ _ _ _ ⟨fun q => bad (by omega), fun a1 => ⟨fun a2 => ⟨fun q => bad (by omega), fun a3 => ⟨fun a4 => ⟨fun e1 => ⟨fun e3 => ?_, fun e3 => ?_, fun e3 => ?_, fun e3 => ?_⟩, fun e1 => ⟨fun e3 => ?_, fun e3 => ?_, fun e3 => ?_, fun e3 => ?_⟩, fun e1 => ⟨fun e3 => ?_, fun e3 => ?_, fun e3 => ?_, fun e3 => ?_⟩, fun e1 => ⟨fun e3 => ?_, fun e3 => ?_, fun e3 => ?_, fun e3 => ?_⟩⟩, fun q => bad (by omega)⟩⟩, fun q => bad (by omega)⟩⟩
  all_goals subst e1
  all_goals subst e3
  all_goals repeat' first
    | refine ⟨fun _ => ?_, fun _ => ?_⟩
    | exact cp11 iv (by omega) (by omega) (by omega)
    | exact cp14 iv (by omega) (by omega) (by omega)
    | exact cp12 iv (by omega) (by omega) r2 r4 r5 (by omega) (by omega)
    | exact cpok_81 iv (by omega) (by omega) (by omega) (s0.2.2.2.2.2 (by omega)).2 (by omega)
    | exact cpok_81 iv (by omega) (by omega) (by omega) (s1.2.2.2.2.2 (by omega)).2 (by omega)
    | exact cpok_81 iv (by omega) (by omega) (by omega) (s2.2.2.2.2.2 (by omega)).2 (by omega)
    | exact cpok_81 iv (by omega) (by omega) (by omega) (s3.2.2.2.2.2 (by omega)).2 (by omega)
    | exact cpok_83 iv (by omega) (by omega) (by omega) (s0.2.2.2.2.2 (by omega)).2 (by omega)
    | exact cpok_83 iv (by omega) (by omega) (by omega) (s1.2.2.2.2.2 (by omega)).2 (by omega)
    | exact cpok_83 iv (by omega) (by omega) (by omega) (s2.2.2.2.2.2 (by omega)).2 (by omega)
    | exact cpok_83 iv (by omega) (by omega) (by omega) (s3.2.2.2.2.2 (by omega)).2 (by omega)
    | exact cpok_85 iv (by omega) (by omega) (by omega) (s0.2.2.2.2.2 (by omega)).2 (by omega)
    | exact cpok_85 iv (by omega) (by omega) (by omega) (s1.2.2.2.2.2 (by omega)).2 (by omega)
    | exact cpok_85 iv (by omega) (by omega) (by omega) (s2.2.2.2.2.2 (by omega)).2 (by omega)
    | exact cpok_85 iv (by omega) (by omega) (by omega) (s3.2.2.2.2.2 (by omega)).2 (by omega)
    | exact cpok_87 iv (by omega) (by omega) (by omega) (s0.2.2.2.2.2 (by omega)).2 (by omega)
    | exact cpok_87 iv (by omega) (by omega) (by omega) (s1.2.2.2.2.2 (by omega)).2 (by omega)
    | exact cpok_87 iv (by omega) (by omega) (by omega) (s2.2.2.2.2.2 (by omega)).2 (by omega)
    | exact cpok_87 iv (by omega) (by omega) (by omega) (s3.2.2.2.2.2 (by omega)).2 (by omega)
    | refine ⟨by first | omega | (unfold R32; omega), ?_⟩
    | (exfalso; omega)
end
