theorem chk_law (p : Nat) (hp : p < cln 247) : chk 247 p = true := by
  have hp : p < 1350 := Nat.lt_of_lt_of_le hp (by decide +kernel)
  have key : ∀ j, (List.range 150).all (fun i => chk 247 (150 * j + i)) = true → 150 * j ≤ p → p < 150 * j + 150 → chk 247 p = true := fun j h h1 h2 => by
    have h3 := List.all_eq_true.mp h (p - 150 * j) (List.mem_range.mpr (by omega))
    rwa [show 150 * j + (p - 150 * j) = p by omega] at h3
  by_cases h0 : p < 150
  · exact key 0 chk_law_0 (by omega) (by omega)
  by_cases h1 : p < 300
  · exact key 1 chk_law_1 (by omega) (by omega)
  by_cases h2 : p < 450
  · exact key 2 chk_law_2 (by omega) (by omega)
  by_cases h3 : p < 600
  · exact key 3 chk_law_3 (by omega) (by omega)
  by_cases h4 : p < 750
  · exact key 4 chk_law_4 (by omega) (by omega)
  by_cases h5 : p < 900
  · exact key 5 chk_law_5 (by omega) (by omega)
  by_cases h6 : p < 1050
  · exact key 6 chk_law_6 (by omega) (by omega)
  by_cases h7 : p < 1200
  · exact key 7 chk_law_7 (by omega) (by omega)
  by_cases h8 : p < 1350
  · exact key 8 chk_law_8 (by omega) (by omega)
  exact absurd hp h8
theorem chk_all (k : Nat) (hk : k < nM) (p : Nat) (hp : p < cln k) : chk k p = true := by
  have h : ∀ j, j < nM → j = 247 ∨ j ∈ ([0, 1, 2, 3, 4, 5, 6, 7, 8, 9, 10, 11, 12, 13, 14, 15, 16, 17, 18] : List Nat) ∨ j ∈ ([19, 20, 21, 22, 23, 24, 25, 26, 27, 28, 29, 30, 31, 32, 33] : List Nat) ∨ j ∈ ([34, 35, 36, 37, 38, 39, 40, 41, 42, 43, 44, 45, 46, 47, 48, 49, 50, 51, 52, 53, 54, 55, 56, 57, 58, 59, 60, 61, 62, 63, 64, 65] : List Nat) ∨ j ∈ ([66, 67, 68, 69, 70, 71, 72, 73, 74, 75, 76, 77, 78, 79, 80, 81, 82, 83, 84, 85, 86, 87] : List Nat) ∨ j ∈ ([88, 89, 90, 91, 92, 93, 94, 95, 96, 97, 98, 99, 100, 101, 102, 103, 104, 105, 106, 107, 108, 109] : List Nat) ∨ j ∈ ([110, 111, 112, 113, 114, 115, 116, 117, 118, 119, 120, 121, 122, 123, 124, 125, 126] : List Nat) ∨ j ∈ ([127, 128, 129, 130, 131, 132, 133, 134, 135, 136, 137, 138, 139, 140, 141, 142, 143, 144, 145, 146, 147, 148, 149, 150, 151, 152, 153] : List Nat) ∨ j ∈ ([154, 155, 156, 157, 158, 159, 160, 161, 162, 163, 164, 165, 166, 167, 168, 169, 170, 171, 172, 173, 174, 175, 176, 177, 178, 179, 180, 181, 182, 183, 184] : List Nat) ∨ j ∈ ([185, 186, 187, 188, 189, 190, 191, 192, 193, 194, 195, 196, 197, 198, 199, 200, 201, 202, 203, 204, 205, 206, 207, 208, 209, 210, 211, 212, 213, 214, 215] : List Nat) ∨ j ∈ ([216, 217, 218, 219, 220, 221, 222, 223, 224, 225, 226, 227, 228, 229, 230, 231, 232, 233, 234, 235, 236, 237, 238, 239, 240, 241, 242, 243, 244, 245, 246, 248, 249, 250, 251, 252, 253, 254] : List Nat) := by decide +kernel
  rcases h k hk with rfl | h | h | h | h | h | h | h | h | h | h
  · exact chk_law p hp
  · exact List.all_eq_true.mp (chk_0 k h) p (List.mem_range.mpr hp)
  · exact List.all_eq_true.mp (chk_1 k h) p (List.mem_range.mpr hp)
  · exact List.all_eq_true.mp (chk_2 k h) p (List.mem_range.mpr hp)
  · exact List.all_eq_true.mp (chk_3 k h) p (List.mem_range.mpr hp)
  · exact List.all_eq_true.mp (chk_4 k h) p (List.mem_range.mpr hp)
  · exact List.all_eq_true.mp (chk_5 k h) p (List.mem_range.mpr hp)
  · exact List.all_eq_true.mp (chk_6 k h) p (List.mem_range.mpr hp)
  · exact List.all_eq_true.mp (chk_7 k h) p (List.mem_range.mpr hp)
  · exact List.all_eq_true.mp (chk_8 k h) p (List.mem_range.mpr hp)
  · exact List.all_eq_true.mp (chk_9 k h) p (List.mem_range.mpr hp)
theorem chk_at {k p np : Nat} {ai : Instr} (hk : k < nM) (h : cod k p = some (ai, np)) : ∃ ri len, decode (bc k) p = .ok (ri, len) ∧ np = p + len ∧ okL ri len = true ∧ okI (ocl k) (isN k) p ri ai = true := by
  have hp : p < cln k := by
    unfold cod at h
    cases hb : Nat.blt p (cln k) with
    | true => exact Nat.blt_eq.mp hb
    | false => rw [hb] at h; cases h
  have h1 := chk_all k hk p hp
  unfold chk at h1
  rw [h] at h1
  dsimp only at h1
  cases hd : decode (bc k) p with
  | error e => rw [hd] at h1; cases h1
  | ok q =>
    obtain ⟨ri, len⟩ := q
    rw [hd] at h1
    simp only [Bool.and_eq_true] at h1
    exact ⟨ri, len, rfl, Nat.eq_of_beq_eq_true h1.1, h1.2.1, h1.2.2⟩
