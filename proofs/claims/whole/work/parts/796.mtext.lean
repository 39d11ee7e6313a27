-- ===== the reference reads a text =====
def Wt (b : HP) (t : Int) : Int → Int := fb (fun p => b 103 (50 * t + p)) (b 104 t)
/-- texts are well -/
def Xok (b : HP) : Prop := ∀ t : Int, 0 ≤ t → t < 2 → 0 ≤ b 104 t ∧ b 104 t ≤ 50 ∧ ∀ p : Int, 0 ≤ p → p < b 104 t → 0 ≤ b 103 (50 * t + p) ∧ b 103 (50 * t + p) ≤ 255
def fRd (a : Nat) (j : Int) : Prop := (105 ≤ a ∧ a ≤ 108) ∨ (a = 89 ∧ 23 ≤ j ∧ j ≤ 24)
/-- r rules are read -/
def MS (h : HP) (w : Int → Int) (r : Nat) : Prop := h 89 24 = r ∧ ∀ i : Nat, i < r → h 105 i = w (pos w i) ∧ h 106 i = kR w (pos w i) ∧ h 107 i = nR w (pos w i) ∧ h 108 i = zR w (pos w i)
theorem MS.fr {h h' : HP} {w : Int → Int} {r : Nat} {C : Nat → Int → Prop} (m : MS h w r) (F : Fr C h h') (n24 : ¬ C 89 24) (n : ∀ a j, 105 ≤ a → a ≤ 108 → ¬ C a j) : MS h' w r := by
  refine ⟨(F _ _ n24).trans m.1, fun i hi => ?_⟩
  rw [F _ _ (n 105 i (by decide) (by decide)), F _ _ (n 106 i (by decide) (by decide)), F _ _ (n 107 i (by decide) (by decide)), F _ _ (n 108 i (by decide) (by decide))]
  exact m.2 i hi
def MRd (h : HP) (w : Int → Int) (r : Nat) (v : Option aV) (h' : HP) : Prop := Fr fRd h h' ∧ ((flt w (pos w r) ≠ -1 ∧ v = some (vi 0) ∧ h' 89 23 = flt w (pos w r) ∧ h' 89 24 = h 89 24) ∨ (flt w (pos w r) = -1 ∧ v = some (vi 1) ∧ h' 89 23 = eR w (pos w r) ∧ MS h' w (r + 1)))
theorem mr_f {h U : HP} {w : Int → Int} {r : Nat} {p q : Int} (F : Fr fRd h U) (e : flt w (pos w r) = p) (hp : 0 ≤ p) (hq : q = p) (n24 : U 89 24 = h 89 24 := by first | rfl | (repeat rw [upd2_o (by decide)])) : MRd h w r (some (vi 0)) (upd2 U 89 23 q) :=
  ⟨F.up (.inr ⟨rfl, by decide, by decide⟩), .inl ⟨by omega, rfl, by rw [upd2_s, e, hq], (upd2_o (by decide)).trans n24⟩⟩
theorem mr_s {h U : HP} {w : Int → Int} {r : Nat} {B K N Z : Int} (F : Fr fRd h U) (F2 : Fr (fun a j => a = 89 ∧ j = 23) h U) (m : MS h w r) (hr : r < 8) (e : flt w (pos w r) = -1) (ea : U 89 23 = eR w (pos w r)) (eB : B = w (pos w r)) (eK : K = kR w (pos w r)) (eN : N = nR w (pos w r)) (eZ : Z = zR w (pos w r)) : MRd h w r (some (vi 1)) (upd2 (upd2 (upd2 (upd2 (upd2 U 105 r B) 106 r K) 107 r N) 108 r Z) 89 24 ((r : Int) + 1)) := by
  refine ⟨((((F.up (.inl (by decide))).up (.inl (by decide))).up (.inl (by decide))).up (.inl (by decide))).up (.inr ⟨rfl, by decide, by decide⟩), .inr ⟨e, rfl, ?_, upd2_s, fun i hi => ?_⟩⟩
  · rw [upd2_o (by decide), upd2_ne (by decide), upd2_ne (by decide), upd2_ne (by decide), upd2_ne (by decide)]; exact ea
  · rw [upd2_ne (a := 89) (b := 105) (by decide), upd2_ne (a := 89) (b := 106) (by decide), upd2_ne (a := 89) (b := 107) (by decide), upd2_ne (a := 89) (b := 108) (by decide), upd2_ne (a := 108) (b := 105) (by decide), upd2_ne (a := 108) (b := 106) (by decide), upd2_ne (a := 108) (b := 107) (by decide), upd2_ne (a := 107) (b := 105) (by decide), upd2_ne (a := 107) (b := 106) (by decide), upd2_ne (a := 106) (b := 105) (by decide), upd2_at, upd2_at, upd2_at, upd2_at]
    by_cases q : i = r
    · rw [if_pos (by omega), if_pos (by omega), if_pos (by omega), if_pos (by omega), q]; exact ⟨eB, eK, eN, eZ⟩
    · rw [if_neg (by omega), if_neg (by omega), if_neg (by omega), if_neg (by omega), upd2_ne (a := 105) (b := 106) (by decide), upd2_ne (a := 106) (b := 107) (by decide), upd2_ne (a := 105) (b := 107) (by decide), upd2_ne (a := 107) (b := 108) (by decide), upd2_ne (a := 106) (b := 108) (by decide), upd2_ne (a := 105) (b := 108) (by decide), F2 _ _ (by omega), F2 _ _ (by omega), F2 _ _ (by omega), F2 _ _ (by omega)]
      exact m.2 i (by omega)
section
variable {X : Nat × (Int → Int)} {b : HP}
theorem K91_8 {h : HP} {t : Int} (ht : 0 ≤ t ∧ t < 2) (x : Xok b) (hP : P h = P b) (e24 : h 89 24 = 8) (ha : 0 ≤ h 89 23) : Wp X 2 91 0 [vr 89, vi t, vu, vu, vu, vu] [] h (fun v h' => v = some (vi 0) ∧ h' = h) := by
  have eL : h 104 t = b 104 t := congrFun (congrFun hP 104) t
  have xt := x t ht.1 ht.2
  refine S91_89_0 _ ⟨ht, fun q => ⟨fun _ => ⟨rfl, rfl⟩, fun q2 => absurd e24 q2⟩, fun q => ⟨by unfold R32; omega, by omega, fun _ => ⟨rfl, rfl⟩, fun q2 => absurd e24 q2⟩⟩
theorem K91 {h : HP} {t : Int} {w : Int → Int} {r : Nat} (ht : 0 ≤ t ∧ t < 2) (x : Xok b) (hP : P h = P b) (hw : w = Wt b t) (hr : r < 8) (ha : 0 ≤ pos w r) (e23 : h 89 23 = pos w r) (m : MS h w r) : Wp X 2 91 0 [vr 89, vi t, vu, vu, vu, vu] [] h (MRd h w r) := by
  have eL : h 104 t = b 104 t := congrFun (congrFun hP 104) t
  have xt := x t ht.1 ht.2
  have e24 := m.1
  have hb : ∀ p : Int, 0 ≤ p → (p < b 104 t ∧ h 103 (50 * t + p) = w p ∧ 0 ≤ w p ∧ w p ≤ 255) ∨ (b 104 t ≤ p ∧ w p = -1) := by
    intro p hp
    by_cases c : p < b 104 t
    · left
      have e : h 103 (50 * t + p) = b 103 (50 * t + p) := congrFun (congrFun hP 103) _
      have e2 : w p = b 103 (50 * t + p) := by rw [hw]; exact fb_in ⟨hp, c⟩
      have := xt.2.2 p hp c
      exact ⟨c, by omega, by omega, by omega⟩
    · right
      exact ⟨by omega, by rw [hw]; exact fb_out (fun q => c q.2)⟩
  have kd : kR w (pos w r) = w (pos w r + 1) - 48 := rfl
  have F1 : ∀ q, Fr fRd h (upd2 h 89 23 q) := fun q => Fr.rf.up (.inr ⟨rfl, by decide, by decide⟩)
  generalize hA : pos w r = A at *
  refine S91_89_0 _ ?_
  rw [eL, e23, e24]
  refine ⟨ht, fun q => ⟨fun _ => absurd ‹_› (by omega), fun _ => ?_⟩, fun q => ⟨by unfold R32; omega, by omega, fun _ => absurd ‹_› (by omega), fun _ => ?_⟩⟩
  · rcases hb A ha with c | c
    · exact absurd q (by omega)
    · have e := flt_lo (w := w) (a := A) (by omega)
      exact ⟨Fr.rf, .inl ⟨by rw [hA, e]; omega, rfl, by rw [hA, e]; exact e23, rfl⟩⟩
  rcases hb A ha with ⟨-, d0, f0⟩ | ⟨c, -⟩
  case inr => exact absurd q (by omega)
  rw [d0]
  have run : ∀ lo : Int, (w A = 114 ∧ lo = 2 ∨ w A = 97 ∧ lo = 3) → ((R32 (A + 1)) ∧ ((b 104 t ≤ (A + 1) → (((lcp (-49) lo) < 0 → MRd h w r (some (vi 0)) (upd2 h 89 23 (A + 1))) ∧ (0 ≤ (lcp (-49) lo) → ((0 < (lcp (-49) 9) → MRd h w r (some (vi 0)) (upd2 h 89 23 (A + 1))) ∧ ((lcp (-49) 9) ≤ 0 → ((R32 ((A + 1) + 1)) ∧ MRd h w r (some (vi 0)) (upd2 (upd2 h 89 23 (A + 1)) 89 23 ((A + 1) + 1)))))))) ∧ ((A + 1) < b 104 t → ((R32 ((50 * t) + (A + 1))) ∧ ((0 ≤ ((50 * t) + (A + 1)) ∧ ((50 * t) + (A + 1)) < 100) ∧ ((R32 ((h 103 ((50 * t) + (A + 1))) - 48)) ∧ (((lcp ((h 103 ((50 * t) + (A + 1))) - 48) lo) < 0 → MRd h w r (some (vi 0)) (upd2 h 89 23 (A + 1))) ∧ (0 ≤ (lcp ((h 103 ((50 * t) + (A + 1))) - 48) lo) → ((0 < (lcp ((h 103 ((50 * t) + (A + 1))) - 48) 9) → MRd h w r (some (vi 0)) (upd2 h 89 23 (A + 1))) ∧ ((lcp ((h 103 ((50 * t) + (A + 1))) - 48) 9) ≤ 0 → ((R32 ((A + 1) + 1)) ∧ ((((h 103 ((50 * t) + (A + 1))) - 48) < 0 → MRd h w r (some (vi 0)) (upd2 (upd2 h 89 23 (A + 1)) 89 23 ((A + 1) + 1))) ∧ (0 ≤ ((h 103 ((50 * t) + (A + 1))) - 48) → ((0 ≤ (r : Int) ∧ (r : Int) < 8) ∧ MRd h w r (some (vi 1)) (upd2 (upd2 (upd2 (upd2 (upd2 (upd2 (upd2 h 89 23 (A + 1)) 89 23 ((A + 1) + 1)) 105 (r : Int) (w A)) 106 (r : Int) ((h 103 ((50 * t) + (A + 1))) - 48)) 107 (r : Int) ((h 103 ((50 * t) + (A + 1))) - 48)) 108 (r : Int) 0) 89 24 ((r : Int) + 1)))))))))))))))) := by
    intro lo hlo
    have hn : w A ≠ 122 := by omega
    have eE : eR w A = A + 2 := if_neg hn
    have eN : nR w A = kR w A := if_neg hn
    have eZ : zR w A = 0 := if_neg hn
    refine ⟨by unfold R32; omega, fun c1 => ?_, fun c1 => ?_⟩
    · rcases hb (A + 1) (by omega) with ⟨c, -⟩ | ⟨-, d1⟩
      · exact absurd c (by omega)
      · have e : flt w A = A + 1 := flt_k (by rw [kd, d1]; omega)
        refine ⟨fun _ => mr_f Fr.rf (by rw [hA]; exact e) (by omega) rfl, fun q => ?_⟩
        rw [lcp_ge] at q
        exact absurd q (by omega)
    · rcases hb (A + 1) (by omega) with ⟨-, d1, f1⟩ | ⟨c, -⟩
      case inr => exact absurd c (by omega)
      rw [d1, ← kd]
      refine ⟨by unfold R32; omega, by omega, by unfold R32; omega, fun q => ?_, fun q => ⟨fun q2 => ?_, fun q2 => ⟨by unfold R32; omega, fun q3 => ?_, fun q3 => ⟨by omega, ?_⟩⟩⟩⟩
      · rw [lcp_l] at q
        exact mr_f Fr.rf (by rw [hA]; exact flt_k (by omega)) (by omega) rfl
      · rw [lcp_g] at q2
        exact mr_f Fr.rf (by rw [hA]; exact flt_k (by omega)) (by omega) rfl
      · rw [lcp_ge] at q
        exact absurd q3 (by omega)
      · rw [lcp_ge] at q
        rw [lcp_le] at q2
        have e : flt w A = -1 := flt_r (by omega)
        exact mr_s ((F1 _).up (.inr ⟨rfl, by decide, by decide⟩)) ((Fr.rf.up ⟨rfl, rfl⟩).up ⟨rfl, rfl⟩) m hr (by rw [hA]; exact e) (by rw [hA, upd2_s, eE]; omega) (by rw [hA]) (by rw [hA]) (by rw [hA, eN]) (by rw [hA, eZ])
  refine ⟨fun cz => ?_, fun nz => ⟨fun cr => ?_, fun nr => ⟨fun ca => ?_, fun na => ?_⟩⟩⟩
  · clear run
    have nd : nR w A = w (A + 3) - 48 := if_pos cz
    have zd : zR w A = w (A + 5) - 48 := if_pos cz
    have eE : eR w A = A + 6 := if_pos cz
    have flz : flt w (pos w r) = flt w A := by rw [hA]
    refine ⟨by unfold R32; omega, fun c1 => ?_, fun c1 => ?_⟩
    · rcases hb (A + 1) (by omega) with ⟨c, -⟩ | ⟨-, d1⟩
      · exact absurd c (by omega)
      · have e : flt w A = A + 1 := flt_k (by rw [kd, d1]; omega)
        refine ⟨fun _ => mr_f Fr.rf (flz.trans e) (by omega) rfl, fun q => ?_⟩
        rw [lcp_ge] at q
        exact absurd q (by omega)
    · rcases hb (A + 1) (by omega) with ⟨-, d1, f1⟩ | ⟨c, -⟩
      case inr => exact absurd c (by omega)
      rw [d1, ← kd]
      refine ⟨by unfold R32; omega, by omega, by unfold R32; omega, fun q => ?_, fun k1 => ⟨fun q2 => ?_, fun k5 => ⟨by unfold R32; omega, fun q3 => ?_, fun _ => ?_⟩⟩⟩
      · rw [lcp_l] at q
        exact mr_f Fr.rf (flz.trans (flt_k (by omega))) (by omega) rfl
      · rw [lcp_g] at q2
        exact mr_f Fr.rf (flz.trans (flt_k (by omega))) (by omega) rfl
      · rw [lcp_ge] at k1
        exact absurd q3 (by omega)
      rw [lcp_ge] at k1
      rw [lcp_le] at k5
      have fz := flt_z cz ⟨k1, k5⟩
      have F2 : ∀ q q', Fr fRd h (upd2 (upd2 h 89 23 q) 89 23 q') := fun q q' => (F1 q).up (.inr ⟨rfl, by decide, by decide⟩)
      have G2 : ∀ q q', Fr (fun a j => a = 89 ∧ j = 23) h (upd2 (upd2 h 89 23 q) 89 23 q') := fun q q' => (Fr.rf.up ⟨rfl, rfl⟩).up ⟨rfl, rfl⟩
      refine ⟨fun c2 => ⟨by unfold R32; omega, ?_⟩, fun c2 => ?_⟩
      · rcases hb (A + 1 + 1) (by omega) with ⟨c, -⟩ | ⟨-, d2⟩
        · exact absurd c (by omega)
        · rw [show A + 1 + 1 = A + 2 by omega] at d2
          exact mr_f (F2 _ _) (flz.trans (by rw [fz, if_pos (by omega)])) (by omega) (by omega)
      rcases hb (A + 1 + 1) (by omega) with ⟨-, d2, f2⟩ | ⟨c, -⟩
      case inr => exact absurd c (by omega)
      rw [d2]
      rw [show A + 1 + 1 = A + 2 by omega] at f2 ⊢
      refine ⟨by unfold R32; omega, by omega, fun c47 => ⟨by unfold R32; omega, ?_⟩, fun c47 => ⟨by unfold R32; omega, ?_⟩⟩
      · exact mr_f (F2 _ _) (flz.trans (by rw [fz, if_pos c47])) (by omega) (by omega)
      rw [if_neg (fun q => q c47)] at fz
      have F3 : ∀ q q' q2, Fr fRd h (upd2 (upd2 (upd2 h 89 23 q) 89 23 q') 89 23 q2) := fun q q' q2 => (F2 q q').up (.inr ⟨rfl, by decide, by decide⟩)
      have G3 : ∀ q q' q2, Fr (fun a j => a = 89 ∧ j = 23) h (upd2 (upd2 (upd2 h 89 23 q) 89 23 q') 89 23 q2) := fun q q' q2 => (G2 q q').up ⟨rfl, rfl⟩
      refine ⟨fun c3 => ?_, fun c3 => ?_⟩
      · rcases hb (A + 2 + 1) (by omega) with ⟨c, -⟩ | ⟨-, d3⟩
        · exact absurd c (by omega)
        · rw [show A + 2 + 1 = A + 3 by omega] at d3
          refine ⟨fun _ => mr_f (F2 _ _) (flz.trans (by rw [fz, if_pos (by omega)])) (by omega) (by omega), fun q => ?_⟩
          rw [lcp_ge] at q
          exact absurd q (by omega)
      rcases hb (A + 2 + 1) (by omega) with ⟨-, d3, f3⟩ | ⟨c, -⟩
      case inr => exact absurd c (by omega)
      rw [d3]
      rw [show A + 2 + 1 = A + 3 by omega] at f3 c3 ⊢
      rw [← nd]
      refine ⟨by unfold R32; omega, by omega, by unfold R32; omega, fun q => ?_, fun n1 => ⟨fun q => ?_, fun n5 => ⟨by unfold R32; omega, fun q => ?_, fun _ => ?_⟩⟩⟩
      · rw [lcp_l] at q
        exact mr_f (F2 _ _) (flz.trans (by rw [fz, if_pos (by omega)])) (by omega) (by omega)
      · rw [lcp_g] at q
        exact mr_f (F2 _ _) (flz.trans (by rw [fz, if_pos (by omega)])) (by omega) (by omega)
      · rw [lcp_ge] at n1
        exact absurd q (by omega)
      rw [lcp_ge] at n1
      rw [lcp_le] at n5
      rw [if_neg (by omega)] at fz
      refine ⟨fun c4 => ⟨by unfold R32; omega, ?_⟩, fun c4 => ?_⟩
      · rcases hb (A + 3 + 1) (by omega) with ⟨c, -⟩ | ⟨-, d4⟩
        · exact absurd c (by omega)
        · rw [show A + 3 + 1 = A + 4 by omega] at d4
          exact mr_f ((F3 _ _ _).up (.inr ⟨rfl, by decide, by decide⟩)) (flz.trans (by rw [fz, if_pos (by omega)])) (by omega) (by omega)
      rcases hb (A + 3 + 1) (by omega) with ⟨-, d4, f4⟩ | ⟨c, -⟩
      case inr => exact absurd c (by omega)
      rw [d4]
      rw [show A + 3 + 1 = A + 4 by omega] at f4 c4 ⊢
      refine ⟨by unfold R32; omega, by omega, fun c62 => ⟨by unfold R32; omega, ?_⟩, fun c62 => ⟨by unfold R32; omega, ?_⟩⟩
      · exact mr_f ((F3 _ _ _).up (.inr ⟨rfl, by decide, by decide⟩)) (flz.trans (by rw [fz, if_pos c62])) (by omega) (by omega)
      rw [if_neg (fun q => q c62)] at fz
      refine ⟨fun c5 => ?_, fun c5 => ?_⟩
      · rcases hb (A + 4 + 1) (by omega) with ⟨c, -⟩ | ⟨-, d5⟩
        · exact absurd c (by omega)
        · rw [show A + 4 + 1 = A + 5 by omega] at d5
          refine ⟨fun _ => mr_f ((F3 _ _ _).up (.inr ⟨rfl, by decide, by decide⟩)) (flz.trans (by rw [fz, if_pos (by omega)])) (by omega) (by omega), fun q => ?_⟩
          rw [lcp_ge] at q
          exact absurd q (by omega)
      rcases hb (A + 4 + 1) (by omega) with ⟨-, d5, f5⟩ | ⟨c, -⟩
      case inr => exact absurd c (by omega)
      rw [d5]
      rw [show A + 4 + 1 = A + 5 by omega] at f5 c5 ⊢
      rw [← zd]
      refine ⟨by unfold R32; omega, by omega, by unfold R32; omega, fun q => ?_, fun z0 => ⟨fun q => ?_, fun z3 => ⟨by unfold R32; omega, fun _ => ⟨by omega, ?_⟩, fun q => ?_⟩⟩⟩
      · rw [lcp_l] at q
        exact mr_f ((F3 _ _ _).up (.inr ⟨rfl, by decide, by decide⟩)) (flz.trans (by rw [fz, if_pos (by omega)])) (by omega) (by omega)
      · rw [lcp_g] at q
        exact mr_f ((F3 _ _ _).up (.inr ⟨rfl, by decide, by decide⟩)) (flz.trans (by rw [fz, if_pos (by omega)])) (by omega) (by omega)
      · rw [lcp_ge] at z0
        rw [lcp_le] at z3
        rw [if_neg (by omega)] at fz
        exact mr_s (((((F3 _ _ _).up (.inr ⟨rfl, by decide, by decide⟩)).up (.inr ⟨rfl, by decide, by decide⟩))).up (.inr ⟨rfl, by decide, by decide⟩)) ((((G3 _ _ _).up ⟨rfl, rfl⟩).up ⟨rfl, rfl⟩).up ⟨rfl, rfl⟩) m hr (flz.trans fz) (by rw [hA, upd2_s, eE]; omega) (by rw [hA]) (by rw [hA]) (by rw [hA]) (by rw [hA])
      · rw [lcp_ge] at z0
        exact absurd q (by omega)
  · exact run 2 (.inl ⟨cr, rfl⟩)
  · exact run 3 (.inr ⟨ca, rfl⟩)
  · have e := flt_lo (w := w) (a := A) (by omega)
    exact ⟨Fr.rf, .inl ⟨by rw [hA, e]; omega, rfl, by rw [hA, e]; exact e23, rfl⟩⟩
end
