-- ===== the heap behind the constructors =====
def Sm (xs : Int → Int) (h1 h2 : HP) : Prop := (∀ a j, a ≠ 5 → h1 a j = h2 a j) ∧ ∀ j, h1 5 j = xs j
theorem Sm.upd {xs : Int → Int} {h1 h2 : HP} {a : Nat} {i v : Int} (ha : a ≠ 5) (e : Sm xs h1 h2) : Sm xs (upd2 h1 a i v) (upd2 h2 a i v) := by
  refine ⟨fun b j hb => ?_, fun j => ?_⟩
  · unfold upd2; rw [e.1 b j hb]
  · rw [show upd2 h1 a i v 5 = h1 5 from upd2_ne (Ne.symm ha)]; exact e.2 j
theorem Sm.nw {xs : Int → Int} {h1 h2 : HP} {a : Nat} (ha : a ≠ 5) (e : Sm xs h1 h2) : Sm xs (new0 h1 a) (new0 h2 a) := by
  refine ⟨fun b j hb => ?_, fun j => ?_⟩
  · unfold new0; rw [e.1 b j hb]
  · unfold new0; rw [if_neg (Ne.symm ha)]; exact e.2 j
theorem HC_tab : ∀ a, a < 120 → ∀ j, j < 64 → RFn a j = 0 ∨ HC (fun _ => 0) a j = RFn a j := by decide +kernel
