-- ===== the heap behind the constructors =====
def Sm (xs : Int → Int) (h1 h2 : HP) : Prop := (∀ a j, a ≠ 5 → h1 a j = h2 a j) ∧ ∀ j, h1 5 j = xs j
theorem Sm.upd {xs : Int → Int} {h1 h2 : HP} {a : Nat} {i v : Int} (ha : a ≠ 5) (e : Sm xs h1 h2) : Sm xs (upd2 h1 a i v) (upd2 h2 a i v) := by
  refine ⟨fun b j hb => ?_, fun j => ?_⟩
  · unfold upd2; rw [e.1 b j hb]
  · rw [show upd2 h1 a i v 5 = h1 5 from upd2_ne (Ne.symm ha)]; exact e.2 j
theorem Sm.nw {xs : Int → Int} {h1 h2 : HP} {a : Nat} (ha : a ≠ 5) (e : Sm xs h1 h2) : Sm xs (new0 h1 a) (new0 h2 a) := by
  refine ⟨fun b j hb => ?_, fun j => ?_⟩
  · unfold new0; rw [e.1 b j hb]
  · unfold new0; rw [if_neg (Ne.symm ha)]; exact e.2 j
theorem HC_tab : ∀ a, a < 120 → ∀ j, j < 64 → RFn a j = 0 ∨ HC (fun _ => 0) a j = RFn a j := by decide +kernel
theorem Sm.nm {xs : Int → Int} {h1 h2 : HP} {a n : Nat} (ha : 5 < a) (e : Sm xs h1 h2) : Sm xs (newM h1 a n) (newM h2 a n) := by
  refine ⟨fun b j hb => ?_, fun j => ?_⟩
  · unfold newM; rw [e.1 b j hb]
  · unfold newM; rw [if_neg (by omega), if_neg (by omega)]; exact e.2 j
theorem Sm.cl {xs : Int → Int} {h1 h2 : HP} {b a : Nat} (hb : b ≠ 5) (ha : a ≠ 5) (e : Sm xs h1 h2) : Sm xs (cloH h1 b a) (cloH h2 b a) := by
  refine ⟨fun c j hc => ?_, fun j => ?_⟩
  · unfold cloH; rw [e.1 c j hc, e.1 a j ha]
  · unfold cloH; rw [if_neg (Ne.symm hb)]; exact e.2 j
theorem Sm.base (xs : Int → Int) : Sm xs (HP0 xs) (HP0 fun _ => 0) := by
  refine ⟨fun b j hb => ?_, fun j => ?_⟩
  · unfold HP0; rw [if_neg hb, if_neg hb]
  · unfold HP0; rw [if_pos rfl]
theorem HC_sm (xs : Int → Int) : Sm xs (HC xs) (HC fun _ => 0) := by
  unfold HC
  refine Sm.upd (by decide) ?_
  refine Sm.upd (by decide) ?_
  refine Sm.upd (by decide) ?_
  refine Sm.upd (by decide) ?_
  refine Sm.upd (by decide) ?_
  refine Sm.upd (by decide) ?_
  refine Sm.upd (by decide) ?_
  refine Sm.upd (by decide) ?_
  refine Sm.upd (by decide) ?_
  refine Sm.upd (by decide) ?_
  refine Sm.upd (by decide) ?_
  refine Sm.upd (by decide) ?_
  refine Sm.upd (by decide) ?_
  refine Sm.upd (by decide) ?_
  refine Sm.upd (by decide) ?_
  refine Sm.upd (by decide) ?_
  refine Sm.upd (by decide) ?_
  refine Sm.upd (by decide) ?_
  refine Sm.upd (by decide) ?_
  refine Sm.upd (by decide) ?_
  refine Sm.nw (by decide) ?_
  refine Sm.upd (by decide) ?_
  refine Sm.nw (by decide) ?_
  refine Sm.upd (by decide) ?_
  refine Sm.nw (by decide) ?_
  refine Sm.upd (by decide) ?_
  refine Sm.nw (by decide) ?_
  refine Sm.upd (by decide) ?_
  refine Sm.nw (by decide) ?_
  refine Sm.upd (by decide) ?_
  refine Sm.nw (by decide) ?_
  refine Sm.upd (by decide) ?_
  refine Sm.nw (by decide) ?_
  refine Sm.upd (by decide) ?_
  refine Sm.nw (by decide) ?_
  refine Sm.upd (by decide) ?_
  refine Sm.nw (by decide) ?_
  refine Sm.upd (by decide) ?_
  refine Sm.nw (by decide) ?_
  refine Sm.upd (by decide) ?_
  refine Sm.nw (by decide) ?_
  refine Sm.upd (by decide) ?_
  refine Sm.nw (by decide) ?_
  refine Sm.upd (by decide) ?_
  refine Sm.nw (by decide) ?_
  refine Sm.upd (by decide) ?_
  refine Sm.nw (by decide) ?_
  refine Sm.upd (by decide) ?_
  refine Sm.nw (by decide) ?_
  refine Sm.upd (by decide) ?_
  refine Sm.nw (by decide) ?_
  refine Sm.upd (by decide) ?_
  refine Sm.nw (by decide) ?_
  refine Sm.upd (by decide) ?_
  refine Sm.nw (by decide) ?_
  refine Sm.upd (by decide) ?_
  refine Sm.nw (by decide) ?_
  refine Sm.upd (by decide) ?_
  refine Sm.nw (by decide) ?_
  refine Sm.upd (by decide) ?_
  refine Sm.nw (by decide) ?_
  refine Sm.upd (by decide) ?_
  refine Sm.nw (by decide) ?_
  refine Sm.upd (by decide) ?_
  refine Sm.nw (by decide) ?_
  refine Sm.upd (by decide) ?_
  refine Sm.nw (by decide) ?_
  refine Sm.upd (by decide) ?_
  refine Sm.nw (by decide) ?_
  refine Sm.upd (by decide) ?_
  refine Sm.nw (by decide) ?_
  refine Sm.upd (by decide) ?_
  refine Sm.nw (by decide) ?_
  refine Sm.upd (by decide) ?_
  refine Sm.nw (by decide) ?_
  refine Sm.upd (by decide) ?_
  refine Sm.nw (by decide) ?_
  refine Sm.upd (by decide) ?_
  refine Sm.nw (by decide) ?_
  refine Sm.nw (by decide) ?_
  refine Sm.upd (by decide) ?_
  refine Sm.upd (by decide) ?_
  refine Sm.upd (by decide) ?_
  refine Sm.nw (by decide) ?_
  refine Sm.nw (by decide) ?_
  refine Sm.upd (by decide) ?_
  refine Sm.upd (by decide) ?_
  refine Sm.upd (by decide) ?_
  refine Sm.nw (by decide) ?_
  refine Sm.nw (by decide) ?_
  refine Sm.upd (by decide) ?_
  refine Sm.upd (by decide) ?_
  refine Sm.upd (by decide) ?_
  refine Sm.nw (by decide) ?_
  refine Sm.nw (by decide) ?_
  refine Sm.upd (by decide) ?_
  refine Sm.upd (by decide) ?_
  refine Sm.upd (by decide) ?_
  refine Sm.nw (by decide) ?_
  refine Sm.nw (by decide) ?_
  refine Sm.upd (by decide) ?_
  refine Sm.nw (by decide) ?_
  refine Sm.upd (by decide) ?_
  refine Sm.upd (by decide) ?_
  refine Sm.nw (by decide) ?_
  refine Sm.upd (by decide) ?_
  refine Sm.nw (by decide) ?_
  refine Sm.nw (by decide) ?_
  refine Sm.upd (by decide) ?_
  refine Sm.upd (by decide) ?_
  refine Sm.nw (by decide) ?_
  refine Sm.upd (by decide) ?_
  refine Sm.nw (by decide) ?_
  refine Sm.nw (by decide) ?_
  refine Sm.upd (by decide) ?_
  refine Sm.upd (by decide) ?_
  refine Sm.upd (by decide) ?_
  refine Sm.nw (by decide) ?_
  refine Sm.upd (by decide) ?_
  refine Sm.nw (by decide) ?_
  refine Sm.upd (by decide) ?_
  refine Sm.nw (by decide) ?_
  refine Sm.upd (by decide) ?_
  refine Sm.upd (by decide) ?_
  refine Sm.upd (by decide) ?_
  refine Sm.upd (by decide) ?_
  refine Sm.upd (by decide) ?_
  refine Sm.upd (by decide) ?_
  refine Sm.upd (by decide) ?_
  refine Sm.upd (by decide) ?_
  refine Sm.upd (by decide) ?_
  refine Sm.nw (by decide) ?_
  refine Sm.nw (by decide) ?_
  refine Sm.upd (by decide) ?_
  refine Sm.upd (by decide) ?_
  refine Sm.upd (by decide) ?_
  refine Sm.upd (by decide) ?_
  refine Sm.nw (by decide) ?_
  refine Sm.upd (by decide) ?_
  refine Sm.nw (by decide) ?_
  refine Sm.upd (by decide) ?_
  refine Sm.nw (by decide) ?_
  refine Sm.upd (by decide) ?_
  refine Sm.nw (by decide) ?_
  refine Sm.upd (by decide) ?_
  refine Sm.nw (by decide) ?_
  refine Sm.upd (by decide) ?_
  refine Sm.nw (by decide) ?_
  refine Sm.nw (by decide) ?_
  refine Sm.nw (by decide) ?_
  refine Sm.upd (by decide) ?_
  refine Sm.upd (by decide) ?_
  refine Sm.upd (by decide) ?_
  refine Sm.upd (by decide) ?_
  refine Sm.upd (by decide) ?_
  refine Sm.upd (by decide) ?_
  refine Sm.nw (by decide) ?_
  refine Sm.upd (by decide) ?_
  refine Sm.nw (by decide) ?_
  refine Sm.upd (by decide) ?_
  refine Sm.nw (by decide) ?_
  refine Sm.nw (by decide) ?_
  refine Sm.upd (by decide) ?_
  refine Sm.nw (by decide) ?_
  refine Sm.upd (by decide) ?_
  refine Sm.nw (by decide) ?_
  refine Sm.upd (by decide) ?_
  refine Sm.nw (by decide) ?_
  refine Sm.nw (by decide) ?_
  refine Sm.upd (by decide) ?_
  refine Sm.upd (by decide) ?_
  refine Sm.upd (by decide) ?_
  refine Sm.upd (by decide) ?_
  refine Sm.upd (by decide) ?_
  refine Sm.upd (by decide) ?_
  refine Sm.nw (by decide) ?_
  refine Sm.upd (by decide) ?_
  refine Sm.nw (by decide) ?_
  refine Sm.upd (by decide) ?_
  refine Sm.nw (by decide) ?_
  refine Sm.nw (by decide) ?_
  refine Sm.upd (by decide) ?_
  refine Sm.nw (by decide) ?_
  refine Sm.upd (by decide) ?_
  refine Sm.nw (by decide) ?_
  refine Sm.upd (by decide) ?_
  refine Sm.nw (by decide) ?_
  refine Sm.nw (by decide) ?_
  refine Sm.upd (by decide) ?_
  refine Sm.nw (by decide) ?_
  refine Sm.upd (by decide) ?_
  refine Sm.upd (by decide) ?_
  refine Sm.nw (by decide) ?_
  refine Sm.upd (by decide) ?_
  refine Sm.nw (by decide) ?_
  refine Sm.upd (by decide) ?_
  refine Sm.nw (by decide) ?_
  refine Sm.upd (by decide) ?_
  refine Sm.nw (by decide) ?_
  refine Sm.upd (by decide) ?_
  refine Sm.nw (by decide) ?_
  refine Sm.upd (by decide) ?_
  refine Sm.nw (by decide) ?_
  refine Sm.nw (by decide) ?_
  refine Sm.upd (by decide) ?_
  refine Sm.nw (by decide) ?_
  refine Sm.upd (by decide) ?_
  refine Sm.upd (by decide) ?_
  refine Sm.nw (by decide) ?_
  refine Sm.upd (by decide) ?_
  refine Sm.nw (by decide) ?_
  refine Sm.upd (by decide) ?_
  refine Sm.nm (by decide) ?_
  refine Sm.upd (by decide) ?_
  refine Sm.nw (by decide) ?_
  refine Sm.upd (by decide) ?_
  refine Sm.nw (by decide) ?_
  refine Sm.upd (by decide) ?_
  refine Sm.nw (by decide) ?_
  refine Sm.upd (by decide) ?_
  refine Sm.nw (by decide) ?_
  refine Sm.nw (by decide) ?_
  refine Sm.upd (by decide) ?_
  refine Sm.cl (by decide) (by decide) ?_
  refine Sm.nw (by decide) ?_
  refine Sm.nw (by decide) ?_
  exact Sm.base xs
theorem ble_f {a k : Nat} (h : k < a) : Nat.ble a k = false := by
  cases e : Nat.ble a k with
  | false => rfl
  | true => exact absurd (Nat.le_of_ble_eq_true e) (by omega)
theorem RFn_j {a j : Nat} (h : 64 ≤ j) : RFn a j = 0 := by
  have hb : ∀ k, k < 64 → Nat.ble j k = false := fun k hk => ble_f (by omega)
  unfold RFn
  split <;> first
    | rfl
    | simp only [RF6, RF8, RF13, RF37, RF44, RF45, RF49, RF53, RF57, RF61, RF62, RF69, RF74, RF77, RF80, RF81, RF83, RF85, RF87, RF89, hb, Nat.reduceLT, cond_false]
theorem RFi_a {a : Nat} (h : 120 ≤ a) : RFi a = 0 := by
  have hb : ∀ k, k < 120 → Nat.ble a k = false := fun k hk => ble_f (by omega)
  have hq : ∀ k, k < 120 → Nat.beq a k = false := fun k hk => by
    cases e : Nat.beq a k with
    | false => rfl
    | true => exact absurd (Nat.eq_of_beq_eq_true e) (by omega)
  simp only [RFi, hb, hq, Nat.reduceLT, cond_false]
def St (xs : Int → Int) (h : HP) : Prop := ∀ a, a < 6 → ∀ j, h a j = HP0 xs a j
theorem St.upd {xs : Int → Int} {h : HP} {a : Nat} {i v : Int} (ha : 5 < a) (e : St xs h) : St xs (upd2 h a i v) := by
  intro b hb j
  rw [show upd2 h a i v b = h b from upd2_ne (by omega)]; exact e b hb j
theorem St.nw {xs : Int → Int} {h : HP} {a : Nat} (ha : 5 < a) (e : St xs h) : St xs (new0 h a) := by
  intro b hb j
  unfold new0; rw [if_neg (by omega)]; exact e b hb j
theorem St.nm {xs : Int → Int} {h : HP} {a n : Nat} (ha : 5 < a) (e : St xs h) : St xs (newM h a n) := by
  intro b hb j
  unfold newM; rw [if_neg (by omega), if_neg (by omega)]; exact e b hb j
theorem St.cl {xs : Int → Int} {h : HP} {b a : Nat} (hb : 5 < b) (e : St xs h) : St xs (cloH h b a) := by
  intro c hc j
  unfold cloH; rw [if_neg (by omega)]; exact e c hc j
theorem HC_st (xs : Int → Int) : St xs (HC xs) := by
  unfold HC
  refine St.upd (by decide) ?_
  refine St.upd (by decide) ?_
  refine St.upd (by decide) ?_
  refine St.upd (by decide) ?_
  refine St.upd (by decide) ?_
  refine St.upd (by decide) ?_
  refine St.upd (by decide) ?_
  refine St.upd (by decide) ?_
  refine St.upd (by decide) ?_
  refine St.upd (by decide) ?_
  refine St.upd (by decide) ?_
  refine St.upd (by decide) ?_
  refine St.upd (by decide) ?_
  refine St.upd (by decide) ?_
  refine St.upd (by decide) ?_
  refine St.upd (by decide) ?_
  refine St.upd (by decide) ?_
  refine St.upd (by decide) ?_
  refine St.upd (by decide) ?_
  refine St.upd (by decide) ?_
  refine St.nw (by decide) ?_
  refine St.upd (by decide) ?_
  refine St.nw (by decide) ?_
  refine St.upd (by decide) ?_
  refine St.nw (by decide) ?_
  refine St.upd (by decide) ?_
  refine St.nw (by decide) ?_
  refine St.upd (by decide) ?_
  refine St.nw (by decide) ?_
  refine St.upd (by decide) ?_
  refine St.nw (by decide) ?_
  refine St.upd (by decide) ?_
  refine St.nw (by decide) ?_
  refine St.upd (by decide) ?_
  refine St.nw (by decide) ?_
  refine St.upd (by decide) ?_
  refine St.nw (by decide) ?_
  refine St.upd (by decide) ?_
  refine St.nw (by decide) ?_
  refine St.upd (by decide) ?_
  refine St.nw (by decide) ?_
  refine St.upd (by decide) ?_
  refine St.nw (by decide) ?_
  refine St.upd (by decide) ?_
  refine St.nw (by decide) ?_
  refine St.upd (by decide) ?_
  refine St.nw (by decide) ?_
  refine St.upd (by decide) ?_
  refine St.nw (by decide) ?_
  refine St.upd (by decide) ?_
  refine St.nw (by decide) ?_
  refine St.upd (by decide) ?_
  refine St.nw (by decide) ?_
  refine St.upd (by decide) ?_
  refine St.nw (by decide) ?_
  refine St.upd (by decide) ?_
  refine St.nw (by decide) ?_
  refine St.upd (by decide) ?_
  refine St.nw (by decide) ?_
  refine St.upd (by decide) ?_
  refine St.nw (by decide) ?_
  refine St.upd (by decide) ?_
  refine St.nw (by decide) ?_
  refine St.upd (by decide) ?_
  refine St.nw (by decide) ?_
  refine St.upd (by decide) ?_
  refine St.nw (by decide) ?_
  refine St.upd (by decide) ?_
  refine St.nw (by decide) ?_
  refine St.upd (by decide) ?_
  refine St.nw (by decide) ?_
  refine St.upd (by decide) ?_
  refine St.nw (by decide) ?_
  refine St.upd (by decide) ?_
  refine St.nw (by decide) ?_
  refine St.upd (by decide) ?_
  refine St.nw (by decide) ?_
  refine St.upd (by decide) ?_
  refine St.nw (by decide) ?_
  refine St.nw (by decide) ?_
  refine St.upd (by decide) ?_
  refine St.upd (by decide) ?_
  refine St.upd (by decide) ?_
  refine St.nw (by decide) ?_
  refine St.nw (by decide) ?_
  refine St.upd (by decide) ?_
  refine St.upd (by decide) ?_
  refine St.upd (by decide) ?_
  refine St.nw (by decide) ?_
  refine St.nw (by decide) ?_
  refine St.upd (by decide) ?_
  refine St.upd (by decide) ?_
  refine St.upd (by decide) ?_
  refine St.nw (by decide) ?_
  refine St.nw (by decide) ?_
  refine St.upd (by decide) ?_
  refine St.upd (by decide) ?_
  refine St.upd (by decide) ?_
  refine St.nw (by decide) ?_
  refine St.nw (by decide) ?_
  refine St.upd (by decide) ?_
  refine St.nw (by decide) ?_
  refine St.upd (by decide) ?_
  refine St.upd (by decide) ?_
  refine St.nw (by decide) ?_
  refine St.upd (by decide) ?_
  refine St.nw (by decide) ?_
  refine St.nw (by decide) ?_
  refine St.upd (by decide) ?_
  refine St.upd (by decide) ?_
  refine St.nw (by decide) ?_
  refine St.upd (by decide) ?_
  refine St.nw (by decide) ?_
  refine St.nw (by decide) ?_
  refine St.upd (by decide) ?_
  refine St.upd (by decide) ?_
  refine St.upd (by decide) ?_
  refine St.nw (by decide) ?_
  refine St.upd (by decide) ?_
  refine St.nw (by decide) ?_
  refine St.upd (by decide) ?_
  refine St.nw (by decide) ?_
  refine St.upd (by decide) ?_
  refine St.upd (by decide) ?_
  refine St.upd (by decide) ?_
  refine St.upd (by decide) ?_
  refine St.upd (by decide) ?_
  refine St.upd (by decide) ?_
  refine St.upd (by decide) ?_
  refine St.upd (by decide) ?_
  refine St.upd (by decide) ?_
  refine St.nw (by decide) ?_
  refine St.nw (by decide) ?_
  refine St.upd (by decide) ?_
  refine St.upd (by decide) ?_
  refine St.upd (by decide) ?_
  refine St.upd (by decide) ?_
  refine St.nw (by decide) ?_
  refine St.upd (by decide) ?_
  refine St.nw (by decide) ?_
  refine St.upd (by decide) ?_
  refine St.nw (by decide) ?_
  refine St.upd (by decide) ?_
  refine St.nw (by decide) ?_
  refine St.upd (by decide) ?_
  refine St.nw (by decide) ?_
  refine St.upd (by decide) ?_
  refine St.nw (by decide) ?_
  refine St.nw (by decide) ?_
  refine St.nw (by decide) ?_
  refine St.upd (by decide) ?_
  refine St.upd (by decide) ?_
  refine St.upd (by decide) ?_
  refine St.upd (by decide) ?_
  refine St.upd (by decide) ?_
  refine St.upd (by decide) ?_
  refine St.nw (by decide) ?_
  refine St.upd (by decide) ?_
  refine St.nw (by decide) ?_
  refine St.upd (by decide) ?_
  refine St.nw (by decide) ?_
  refine St.nw (by decide) ?_
  refine St.upd (by decide) ?_
  refine St.nw (by decide) ?_
  refine St.upd (by decide) ?_
  refine St.nw (by decide) ?_
  refine St.upd (by decide) ?_
  refine St.nw (by decide) ?_
  refine St.nw (by decide) ?_
  refine St.upd (by decide) ?_
  refine St.upd (by decide) ?_
  refine St.upd (by decide) ?_
  refine St.upd (by decide) ?_
  refine St.upd (by decide) ?_
  refine St.upd (by decide) ?_
  refine St.nw (by decide) ?_
  refine St.upd (by decide) ?_
  refine St.nw (by decide) ?_
  refine St.upd (by decide) ?_
  refine St.nw (by decide) ?_
  refine St.nw (by decide) ?_
  refine St.upd (by decide) ?_
  refine St.nw (by decide) ?_
  refine St.upd (by decide) ?_
  refine St.nw (by decide) ?_
  refine St.upd (by decide) ?_
  refine St.nw (by decide) ?_
  refine St.nw (by decide) ?_
  refine St.upd (by decide) ?_
  refine St.nw (by decide) ?_
  refine St.upd (by decide) ?_
  refine St.upd (by decide) ?_
  refine St.nw (by decide) ?_
  refine St.upd (by decide) ?_
  refine St.nw (by decide) ?_
  refine St.upd (by decide) ?_
  refine St.nw (by decide) ?_
  refine St.upd (by decide) ?_
  refine St.nw (by decide) ?_
  refine St.upd (by decide) ?_
  refine St.nw (by decide) ?_
  refine St.upd (by decide) ?_
  refine St.nw (by decide) ?_
  refine St.nw (by decide) ?_
  refine St.upd (by decide) ?_
  refine St.nw (by decide) ?_
  refine St.upd (by decide) ?_
  refine St.upd (by decide) ?_
  refine St.nw (by decide) ?_
  refine St.upd (by decide) ?_
  refine St.nw (by decide) ?_
  refine St.upd (by decide) ?_
  refine St.nm (by decide) ?_
  refine St.upd (by decide) ?_
  refine St.nw (by decide) ?_
  refine St.upd (by decide) ?_
  refine St.nw (by decide) ?_
  refine St.upd (by decide) ?_
  refine St.nw (by decide) ?_
  refine St.upd (by decide) ?_
  refine St.nw (by decide) ?_
  refine St.nw (by decide) ?_
  refine St.upd (by decide) ?_
  refine St.cl (by decide) ?_
  refine St.nw (by decide) ?_
  refine St.nw (by decide) ?_
  exact fun _ _ _ => rfl
theorem Fz_HC (N : Nat) (xs : Int → Int) : Fz (N, xs) (HC xs) := by
  have hs := HC_sm xs
  refine ⟨fun a j h => ?_, fun a h1 h5 j => ?_, fun j => hs.2 j⟩
  · have ha : a < 120 := Nat.not_le.mp fun q => h (by unfold RFn; rw [RFi_a q]; rfl)
    have hj : j < 64 := Nat.not_le.mp fun q => h (RFn_j q)
    have e := (HC_tab a ha j hj).resolve_left h
    rw [← e]
    by_cases h5 : a = 5
    · exact absurd (by rw [h5]; rfl) h
    · exact hs.1 a j h5
  · rw [HC_st xs a (by omega) j]; unfold HP0; rw [if_neg (by omega)]
