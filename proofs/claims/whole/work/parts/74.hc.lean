-- ===== the heap behind the constructors =====
def Sm (xs : Int → Int) (h1 h2 : HP) : Prop := (∀ a j, a ≠ 5 → h1 a j = h2 a j) ∧ ∀ j, h1 5 j = xs j
theorem Sm.upd {xs : Int → Int} {h1 h2 : HP} {a : Nat} {i v : Int} (ha : a ≠ 5) (e : Sm xs h1 h2) : Sm xs (upd2 h1 a i v) (upd2 h2 a i v) := by
  refine ⟨fun b j hb => ?_, fun j => ?_⟩
  · unfold upd2; rw [e.1 b j hb]
  · rw [show upd2 h1 a i v 5 = h1 5 from upd2_ne (Ne.symm ha)]; exact e.2 j
theorem Sm.nw {xs : Int → Int} {h1 h2 : HP} {a : Nat} (ha : a ≠ 5) (e : Sm xs h1 h2) : Sm xs (new0 h1 a) (new0 h2 a) := by
  refine ⟨fun b j hb => ?_, fun j => ?_⟩
  · unfold new0; rw [e.1 b j hb]
  · unfold new0; rw [if_neg (Ne.symm ha)]; exact e.2 j
theorem HC_tab : ∀ a, a < 120 → ∀ j, j < 64 → RFn a j = 0 ∨ HC (fun _ => 0) a j = RFn a j := by decide +kernel
theorem Sm.nm {xs : Int → Int} {h1 h2 : HP} {a n : Nat} (ha : 5 < a) (e : Sm xs h1 h2) : Sm xs (newM h1 a n) (newM h2 a n) := by
  refine ⟨fun b j hb => ?_, fun j => ?_⟩
  · unfold newM; rw [e.1 b j hb]
  · unfold newM; rw [if_neg (by omega), if_neg (by omega)]; exact e.2 j
theorem Sm.cl {xs : Int → Int} {h1 h2 : HP} {b a : Nat} (hb : b ≠ 5) (ha : a ≠ 5) (e : Sm xs h1 h2) : Sm xs (cloH h1 b a) (cloH h2 b a) := by
  refine ⟨fun c j hc => ?_, fun j => ?_⟩
  · unfold cloH; rw [e.1 c j hc, e.1 a j ha]
  · unfold cloH; rw [if_neg (Ne.symm hb)]; exact e.2 j
theorem Sm.base (xs : Int → Int) : Sm xs (HP0 xs) (HP0 fun _ => 0) := by
  refine ⟨fun b j hb => ?_, fun j => ?_⟩
  · unfold HP0; rw [if_neg hb, if_neg hb]
  · unfold HP0; rw [if_pos rfl]
theorem HC_sm (xs : Int → Int) : Sm xs (HC xs) (HC fun _ => 0) := by
  unfold HC
  refine Sm.upd (by decide) ?_
  refine Sm.upd (by decide) ?_
  refine Sm.upd (by decide) ?_
  refine Sm.upd (by decide) ?_
  refine Sm.upd (by decide) ?_
  refine Sm.upd (by decide) ?_
  refine Sm.upd (by decide) ?_
  refine Sm.upd (by decide) ?_
  refine Sm.upd (by decide) ?_
  refine Sm.upd (by decide) ?_
  refine Sm.upd (by decide) ?_
  refine Sm.upd (by decide) ?_
  refine Sm.upd (by decide) ?_
  refine Sm.upd (by decide) ?_
  refine Sm.upd (by decide) ?_
  refine Sm.upd (by decide) ?_
  refine Sm.upd (by decide) ?_
  refine Sm.upd (by decide) ?_
  refine Sm.upd (by decide) ?_
  refine Sm.upd (by decide) ?_
  refine Sm.nw (by decide) ?_
  refine Sm.upd (by decide) ?_
  refine Sm.nw (by decide) ?_
  refine Sm.upd (by decide) ?_
  refine Sm.nw (by decide) ?_
  refine Sm.upd (by decide) ?_
  refine Sm.nw (by decide) ?_
  refine Sm.upd (by decide) ?_
  refine Sm.nw (by decide) ?_
  refine Sm.upd (by decide) ?_
  refine Sm.nw (by decide) ?_
  refine Sm.upd (by decide) ?_
  refine Sm.nw (by decide) ?_
  refine Sm.upd (by decide) ?_
  refine Sm.nw (by decide) ?_
  refine Sm.upd (by decide) ?_
  refine Sm.nw (by decide) ?_
  refine Sm.upd (by decide) ?_
  refine Sm.nw (by decide) ?_
  refine Sm.upd (by decide) ?_
  refine Sm.nw (by decide) ?_
  refine Sm.upd (by decide) ?_
  refine Sm.nw (by decide) ?_
  refine Sm.upd (by decide) ?_
  refine Sm.nw (by decide) ?_
  refine Sm.upd (by decide) ?_
  refine Sm.nw (by decide) ?_
  refine Sm.upd (by decide) ?_
  refine Sm.nw (by decide) ?_
  refine Sm.upd (by decide) ?_
  refine Sm.nw (by decide) ?_
  refine Sm.upd (by decide) ?_
  refine Sm.nw (by decide) ?_
  refine Sm.upd (by decide) ?_
  refine Sm.nw (by decide) ?_
  refine Sm.upd (by decide) ?_
  refine Sm.nw (by decide) ?_
  refine Sm.upd (by decide) ?_
  refine Sm.nw (by decide) ?_
  refine Sm.upd (by decide) ?_
  refine Sm.nw (by decide) ?_
  refine Sm.upd (by decide) ?_
  refine Sm.nw (by decide) ?_
  refine Sm.upd (by decide) ?_
  refine Sm.nw (by decide) ?_
  refine Sm.upd (by decide) ?_
  refine Sm.nw (by decide) ?_
  refine Sm.upd (by decide) ?_
  refine Sm.nw (by decide) ?_
  refine Sm.upd (by decide) ?_
  refine Sm.nw (by decide) ?_
  refine Sm.upd (by decide) ?_
  refine Sm.nw (by decide) ?_
  refine Sm.upd (by decide) ?_
  refine Sm.nw (by decide) ?_
  refine Sm.upd (by decide) ?_
  refine Sm.nw (by decide) ?_
  refine Sm.upd (by decide) ?_
  refine Sm.nw (by decide) ?_
  refine Sm.nw (by decide) ?_
  refine Sm.upd (by decide) ?_
  refine Sm.upd (by decide) ?_
  refine Sm.upd (by decide) ?_
  refine Sm.nw (by decide) ?_
  refine Sm.nw (by decide) ?_
  refine Sm.upd (by decide) ?_
  refine Sm.upd (by decide) ?_
  refine Sm.upd (by decide) ?_
  refine Sm.nw (by decide) ?_
  refine Sm.nw (by decide) ?_
  refine Sm.upd (by decide) ?_
  refine Sm.upd (by decide) ?_
  refine Sm.upd (by decide) ?_
  refine Sm.nw (by decide) ?_
  refine Sm.nw (by decide) ?_
  refine Sm.upd (by decide) ?_
  refine Sm.upd (by decide) ?_
  refine Sm.upd (by decide) ?_
  refine Sm.nw (by decide) ?_
  refine Sm.nw (by decide) ?_
  refine Sm.upd (by decide) ?_
  refine Sm.nw (by decide) ?_
  refine Sm.upd (by decide) ?_
  refine Sm.upd (by decide) ?_
  refine Sm.nw (by decide) ?_
  refine Sm.upd (by decide) ?_
  refine Sm.nw (by decide) ?_
  refine Sm.nw (by decide) ?_
  refine Sm.upd (by decide) ?_
  refine Sm.upd (by decide) ?_
  refine Sm.nw (by decide) ?_
  refine Sm.upd (by decide) ?_
  refine Sm.nw (by decide) ?_
  refine Sm.nw (by decide) ?_
  refine Sm.upd (by decide) ?_
  refine Sm.upd (by decide) ?_
  refine Sm.upd (by decide) ?_
  refine Sm.nw (by decide) ?_
  refine Sm.upd (by decide) ?_
  refine Sm.nw (by decide) ?_
  refine Sm.upd (by decide) ?_
  refine Sm.nw (by decide) ?_
  refine Sm.upd (by decide) ?_
  refine Sm.upd (by decide) ?_
  refine Sm.upd (by decide) ?_
  refine Sm.upd (by decide) ?_
  refine Sm.upd (by decide) ?_
  refine Sm.upd (by decide) ?_
  refine Sm.upd (by decide) ?_
  refine Sm.upd (by decide) ?_
  refine Sm.upd (by decide) ?_
  refine Sm.nw (by decide) ?_
  refine Sm.nw (by decide) ?_
  refine Sm.upd (by decide) ?_
  refine Sm.upd (by decide) ?_
  refine Sm.upd (by decide) ?_
  refine Sm.upd (by decide) ?_
  refine Sm.nw (by decide) ?_
  refine Sm.upd (by decide) ?_
  refine Sm.nw (by decide) ?_
  refine Sm.upd (by decide) ?_
  refine Sm.nw (by decide) ?_
  refine Sm.upd (by decide) ?_
  refine Sm.nw (by decide) ?_
  refine Sm.upd (by decide) ?_
  refine Sm.nw (by decide) ?_
  refine Sm.upd (by decide) ?_
  refine Sm.nw (by decide) ?_
  refine Sm.nw (by decide) ?_
  refine Sm.nw (by decide) ?_
  refine Sm.upd (by decide) ?_
  refine Sm.upd (by decide) ?_
  refine Sm.upd (by decide) ?_
  refine Sm.upd (by decide) ?_
  refine Sm.upd (by decide) ?_
  refine Sm.upd (by decide) ?_
  refine Sm.nw (by decide) ?_
  refine Sm.upd (by decide) ?_
  refine Sm.nw (by decide) ?_
  refine Sm.upd (by decide) ?_
  refine Sm.nw (by decide) ?_
  refine Sm.nw (by decide) ?_
  refine Sm.upd (by decide) ?_
  refine Sm.nw (by decide) ?_
  refine Sm.upd (by decide) ?_
  refine Sm.nw (by decide) ?_
  refine Sm.upd (by decide) ?_
  refine Sm.nw (by decide) ?_
  refine Sm.nw (by decide) ?_
  refine Sm.upd (by decide) ?_
  refine Sm.upd (by decide) ?_
  refine Sm.upd (by decide) ?_
  refine Sm.upd (by decide) ?_
  refine Sm.upd (by decide) ?_
  refine Sm.upd (by decide) ?_
  refine Sm.nw (by decide) ?_
  refine Sm.upd (by decide) ?_
  refine Sm.nw (by decide) ?_
  refine Sm.upd (by decide) ?_
  refine Sm.nw (by decide) ?_
  refine Sm.nw (by decide) ?_
  refine Sm.upd (by decide) ?_
  refine Sm.nw (by decide) ?_
  refine Sm.upd (by decide) ?_
  refine Sm.nw (by decide) ?_
  refine Sm.upd (by decide) ?_
  refine Sm.nw (by decide) ?_
  refine Sm.nw (by decide) ?_
  refine Sm.upd (by decide) ?_
  refine Sm.nw (by decide) ?_
  refine Sm.upd (by decide) ?_
  refine Sm.upd (by decide) ?_
  refine Sm.nw (by decide) ?_
  refine Sm.upd (by decide) ?_
  refine Sm.nw (by decide) ?_
  refine Sm.upd (by decide) ?_
  refine Sm.nw (by decide) ?_
  refine Sm.upd (by decide) ?_
  refine Sm.nw (by decide) ?_
  refine Sm.upd (by decide) ?_
  refine Sm.nw (by decide) ?_
  refine Sm.upd (by decide) ?_
  refine Sm.nw (by decide) ?_
  refine Sm.nw (by decide) ?_
  refine Sm.upd (by decide) ?_
  refine Sm.nw (by decide) ?_
  refine Sm.upd (by decide) ?_
  refine Sm.upd (by decide) ?_
  refine Sm.nw (by decide) ?_
  refine Sm.upd (by decide) ?_
  refine Sm.nw (by decide) ?_
  refine Sm.upd (by decide) ?_
  refine Sm.nm (by decide) ?_
  refine Sm.upd (by decide) ?_
  refine Sm.nw (by decide) ?_
  refine Sm.upd (by decide) ?_
  refine Sm.nw (by decide) ?_
  refine Sm.upd (by decide) ?_
  refine Sm.nw (by decide) ?_
  refine Sm.upd (by decide) ?_
  refine Sm.nw (by decide) ?_
  refine Sm.nw (by decide) ?_
  refine Sm.upd (by decide) ?_
  refine Sm.cl (by decide) (by decide) ?_
  refine Sm.nw (by decide) ?_
  refine Sm.nw (by decide) ?_
  exact Sm.base xs
