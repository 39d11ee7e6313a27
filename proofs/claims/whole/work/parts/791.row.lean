-- ===== rows of groups, and what reckon() makes =====
def sg (d : Int) : Int := if 0 < d then 1 else if d < 0 then -1 else 0
def wy (s : Nat → Int) : Nat → Int
  | 0 => 0
  | n + 1 => sg (s (n + 1) - s n)
def swy (s : Nat → Int) : Nat → Int
  | 0 => 1
  | n + 1 => if wy s (n + 1) = 0 then 1 else if wy s (n + 1) = wy s n then swy s n + 1 else 2
def owy (s : Nat → Int) : Nat → Int
  | 0 => 1
  | n + 1 => if wy s (n + 1) = 0 then 1 else if wy s (n + 1) = wy s n then 2 else owy s n + 1
theorem wy_cg {s t : Nat → Int} : ∀ {n : Nat}, (∀ i, i ≤ n → s i = t i) → wy s n = wy t n
  | 0, _ => rfl
  | n + 1, H => by
    show sg (s (n + 1) - s n) = sg (t (n + 1) - t n)
    rw [H n (by omega), H (n + 1) (by omega)]
theorem swy_cg {s t : Nat → Int} : ∀ {n : Nat}, (∀ i, i ≤ n → s i = t i) → swy s n = swy t n
  | 0, _ => rfl
  | n + 1, H => by
    unfold swy
    rw [wy_cg H, wy_cg (n := n) (fun i hi => H i (by omega)), swy_cg (n := n) (fun i hi => H i (by omega))]
theorem owy_cg {s t : Nat → Int} : ∀ {n : Nat}, (∀ i, i ≤ n → s i = t i) → owy s n = owy t n
  | 0, _ => rfl
  | n + 1, H => by
    unfold owy
    rw [wy_cg H, wy_cg (n := n) (fun i hi => H i (by omega)), owy_cg (n := n) (fun i hi => H i (by omega))]
theorem swy_r {s : Nat → Int} : ∀ n : Nat, 1 ≤ swy s n ∧ swy s n ≤ n + 1 ∧ 1 ≤ owy s n ∧ owy s n ≤ n + 1
  | 0 => by unfold swy owy; omega
  | n + 1 => by
    have := swy_r (s := s) n
    unfold swy owy
    repeat' split
    all_goals omega
def msq (m : Int → Int) (l : List Int) (i : Nat) : Int := m (l.getD i 0)
/-- the cells from R on hold the row l of groups with means m, standings s -/
def RowIs (R : Nat) (h : HP) (l : List Int) (m s : Int → Int) : Prop := h R 6 = l.length ∧ l.length ≤ 20 ∧ ∀ i : Nat, i < l.length → h (R + 1) i = l.getD i 0 ∧ h (R + 2) i = m (l.getD i 0) ∧ h (R + 3) i = s (l.getD i 0) ∧ h (R + 4) i = wy (msq m l) i ∧ h (R + 5) i = swy (msq m l) i ∧ h (R + 6) i = owy (msq m l) i
def fRow (R : Nat) (a : Nat) (j : Int) : Prop := (a = R ∧ j = 6) ∨ (R + 1 ≤ a ∧ a ≤ R + 6)
theorem RowIs.fr {R : Nat} {h h' : HP} {l : List Int} {m s : Int → Int} {C : Nat → Int → Prop} (r : RowIs R h l m s) (F : Fr C h h') (n6 : ¬ C R 6) (n : ∀ a j, R + 1 ≤ a → a ≤ R + 6 → ¬ C a j) : RowIs R h' l m s := by
  refine ⟨(F R 6 n6).trans r.1, r.2.1, fun i hi => ?_⟩
  rw [F _ _ (n (R + 1) i (by omega) (by omega)), F _ _ (n (R + 2) i (by omega) (by omega)), F _ _ (n (R + 3) i (by omega) (by omega)), F _ _ (n (R + 4) i (by omega) (by omega)), F _ _ (n (R + 5) i (by omega) (by omega)), F _ _ (n (R + 6) i (by omega) (by omega))]
  exact r.2.2 i hi
theorem msq_app {m : Int → Int} {l : List Int} {g : Int} {i : Nat} (hi : i < l.length) : msq m (l ++ [g]) i = msq m l i := by unfold msq; rw [getD_app_lt hi]
theorem msq_eq {m : Int → Int} {l : List Int} {g : Int} : msq m (l ++ [g]) l.length = m g := by unfold msq; rw [getD_app_eq]
section
variable {X : Nat × (Int → Int)}
theorem row_app {R : Nat} {h : HP} {l : List Int} {m s : Int → Int} {g wv sv ov : Int} (r : RowIs R h l m s) (hl : l.length < 20) (ew : wv = wy (msq m (l ++ [g])) l.length) (es : sv = swy (msq m (l ++ [g])) l.length) (eo : ov = owy (msq m (l ++ [g])) l.length) : RowIs R (upd2 (upd2 (upd2 (upd2 (upd2 (upd2 (upd2 h (R + 1) (h R 6) g) (R + 2) (h R 6) (m g)) (R + 3) (h R 6) (s g)) (R + 4) (h R 6) wv) (R + 5) (h R 6) sv) (R + 6) (h R 6) ov) R 6 ((h R 6) + 1)) (l ++ [g]) m s := by
  have en := r.1
  refine ⟨?_, ?_, fun i hi => ?_⟩
  · rw [upd2_s, en, List.length_append]; rfl
  · rw [List.length_append]; show l.length + 1 ≤ 20; omega
  · have hi' : i < l.length + 1 := by rw [List.length_append] at hi; exact hi
    rw [upd2_ne (a := R) (b := R + 1) (by omega), upd2_ne (a := R) (b := R + 2) (by omega), upd2_ne (a := R) (b := R + 3) (by omega), upd2_ne (a := R) (b := R + 4) (by omega), upd2_ne (a := R) (b := R + 5) (by omega), upd2_ne (a := R) (b := R + 6) (by omega)]
    rw [upd2_ne (a := R + 6) (b := R + 1) (by omega), upd2_ne (a := R + 6) (b := R + 2) (by omega), upd2_ne (a := R + 6) (b := R + 3) (by omega), upd2_ne (a := R + 6) (b := R + 4) (by omega), upd2_ne (a := R + 6) (b := R + 5) (by omega)]
    rw [upd2_ne (a := R + 5) (b := R + 1) (by omega), upd2_ne (a := R + 5) (b := R + 2) (by omega), upd2_ne (a := R + 5) (b := R + 3) (by omega), upd2_ne (a := R + 5) (b := R + 4) (by omega)]
    rw [upd2_ne (a := R + 4) (b := R + 1) (by omega), upd2_ne (a := R + 4) (b := R + 2) (by omega), upd2_ne (a := R + 4) (b := R + 3) (by omega)]
    rw [upd2_ne (a := R + 3) (b := R + 1) (by omega), upd2_ne (a := R + 3) (b := R + 2) (by omega), upd2_ne (a := R + 2) (b := R + 1) (by omega)]
    rw [upd2_at, upd2_at, upd2_at, upd2_at, upd2_at, upd2_at]
    rw [upd2_ne (a := R + 5) (b := R + 6) (by omega), upd2_ne (a := R + 4) (b := R + 6) (by omega), upd2_ne (a := R + 3) (b := R + 6) (by omega), upd2_ne (a := R + 2) (b := R + 6) (by omega), upd2_ne (a := R + 1) (b := R + 6) (by omega)]
    rw [upd2_ne (a := R + 4) (b := R + 5) (by omega), upd2_ne (a := R + 3) (b := R + 5) (by omega), upd2_ne (a := R + 2) (b := R + 5) (by omega), upd2_ne (a := R + 1) (b := R + 5) (by omega)]
    rw [upd2_ne (a := R + 3) (b := R + 4) (by omega), upd2_ne (a := R + 2) (b := R + 4) (by omega), upd2_ne (a := R + 1) (b := R + 4) (by omega)]
    rw [upd2_ne (a := R + 2) (b := R + 3) (by omega), upd2_ne (a := R + 1) (b := R + 3) (by omega), upd2_ne (a := R + 1) (b := R + 2) (by omega)]
    by_cases q : i = l.length
    · have q' : (i : Int) = h R 6 := by rw [en, q]
      rw [if_pos q', if_pos q', if_pos q', if_pos q', if_pos q', if_pos q', q, getD_app_eq]
      exact ⟨rfl, rfl, rfl, ew, es, eo⟩
    · have q' : ¬ (i : Int) = h R 6 := by rw [en]; omega
      have hi2 : i < l.length := by omega
      have c : ∀ j, j ≤ i → msq m (l ++ [g]) j = msq m l j := fun j hj => msq_app (by omega)
      rw [if_neg q', if_neg q', if_neg q', if_neg q', if_neg q', if_neg q', getD_app_lt hi2, wy_cg c, swy_cg c, owy_cg c]
      exact r.2.2 i hi2
theorem K198_37 {h : HP} {l : List Int} {m s : Int → Int} {g : Int} (r : RowIs 37 h l m s) (hl : l.length < 20) : Wp X 0 198 0 [vr 37, vi g, vi (m g), vi (s g), vu, vu] [] h (fun v h' => v = none ∧ Fr (fRow 37) h h' ∧ RowIs 37 h' (l ++ [g]) m s) := by
  have en := r.1
  have F : ∀ wv sv ov : Int, Fr (fRow 37) h (upd2 (upd2 (upd2 (upd2 (upd2 (upd2 (upd2 h 38 (h 37 6) g) 39 (h 37 6) (m g)) 40 (h 37 6) (s g)) 41 (h 37 6) wv) 42 (h 37 6) sv) 43 (h 37 6) ov) 37 6 ((h 37 6) + 1)) := fun wv sv ov => ((((((Fr.rf.up (.inr ⟨by decide, by decide⟩)).up (.inr ⟨by decide, by decide⟩)).up (.inr ⟨by decide, by decide⟩)).up (.inr ⟨by decide, by decide⟩)).up (.inr ⟨by decide, by decide⟩)).up (.inr ⟨by decide, by decide⟩)).up (.inl ⟨rfl, rfl⟩)
  by_cases h0 : l.length = 0
  · refine S198_37_0 _ _ _ ⟨fun w => absurd w (by omega), fun _ => ⟨fun _ => ⟨fun _ => ⟨rfl, F _ _ _, row_app r hl ?_ ?_ ?_⟩, fun w => absurd w (by omega)⟩, fun w => absurd w (by omega)⟩⟩
    · rw [h0]; rfl
    · rw [h0]; rfl
    · rw [h0]; rfl
  · obtain ⟨p, hp⟩ : ∃ p : Nat, l.length = p + 1 := ⟨l.length - 1, by omega⟩
    have e1 : h 37 6 - 1 = (p : Int) := by omega
    have rp := r.2.2 p (by omega)
    have sr := swy_r (s := msq m l) p
    have c : ∀ j, j ≤ p → msq m (l ++ [g]) j = msq m l j := fun j hj => msq_app (by omega)
    have ep : msq m (l ++ [g]) (p + 1) = m g := by rw [← hp]; exact msq_eq
    have em : h 39 p = msq m l p := rp.2.1
    have gw : wy (msq m (l ++ [g])) l.length = sg (m g - msq m l p) := by
      rw [hp]
      show sg (msq m (l ++ [g]) (p + 1) - msq m (l ++ [g]) p) = _
      rw [ep, c p (Nat.le_refl _)]
    have gs : swy (msq m (l ++ [g])) l.length = if sg (m g - msq m l p) = 0 then 1 else if sg (m g - msq m l p) = wy (msq m l) p then swy (msq m l) p + 1 else 2 := by
      rw [← gw, hp]
      show (if wy (msq m (l ++ [g])) (p + 1) = 0 then _ else _) = _
      rw [wy_cg c, swy_cg c]
    have go : owy (msq m (l ++ [g])) l.length = if sg (m g - msq m l p) = 0 then 1 else if sg (m g - msq m l p) = wy (msq m l) p then 2 else owy (msq m l) p + 1 := by
      rw [← gw, hp]
      show (if wy (msq m (l ++ [g])) (p + 1) = 0 then _ else _) = _
      rw [wy_cg c, owy_cg c]
    have e4 : h 41 p = wy (msq m l) p := rp.2.2.2.1
    have e5 : h 42 p = swy (msq m l) p := rp.2.2.2.2.1
    have e6 : h 43 p = owy (msq m l) p := rp.2.2.2.2.2
    refine S198_37_0 _ _ _ ⟨fun w => absurd w (by omega), fun _ => ⟨fun _ => ⟨fun w => absurd w (by omega), fun _ => ?_⟩, fun w => absurd w (by omega)⟩⟩
    rw [e1, em, e4, e5, e6]
    refine ⟨⟨by omega, by omega⟩, fun w => ⟨fun w2 => ?_, fun w2 => ?_⟩, fun w => ?_⟩
    · have e : sg (m g - msq m l p) = -1 := by unfold sg; rw [if_neg (by omega), if_pos (by omega)]
      rw [e] at gw gs go
      rw [if_neg (by decide)] at gs go
      refine ⟨fun w3 => ⟨by unfold R32; omega, rfl, F _ _ _, row_app r hl gw.symm ?_ ?_⟩, fun w3 => ⟨by unfold R32; omega, rfl, F _ _ _, row_app r hl gw.symm ?_ ?_⟩⟩
      · rw [gs, if_neg w3]
      · rw [go, if_neg w3]
      · rw [gs, if_pos w3]
      · rw [go, if_pos w3]
    · have e : sg (m g - msq m l p) = 1 := by unfold sg; rw [if_pos (by omega)]
      rw [e] at gw gs go
      rw [if_neg (by decide)] at gs go
      refine ⟨fun w3 => ⟨by unfold R32; omega, rfl, F _ _ _, row_app r hl gw.symm ?_ ?_⟩, fun w3 => ⟨by unfold R32; omega, rfl, F _ _ _, row_app r hl gw.symm ?_ ?_⟩⟩
      · rw [gs, if_neg w3]
      · rw [go, if_neg w3]
      · rw [gs, if_pos w3]
      · rw [go, if_pos w3]
    · have e : sg (m g - msq m l p) = 0 := by unfold sg; rw [if_neg (by omega), if_neg (by omega)]
      rw [e] at gw gs go
      rw [if_pos rfl] at gs go
      exact ⟨rfl, F _ _ _, row_app r hl gw.symm gs.symm go.symm⟩
theorem K198_62 {h : HP} {l : List Int} {m s : Int → Int} {g : Int} (r : RowIs 62 h l m s) (hl : l.length < 20) : Wp X 0 198 0 [vr 62, vi g, vi (m g), vi (s g), vu, vu] [] h (fun v h' => v = none ∧ Fr (fRow 62) h h' ∧ RowIs 62 h' (l ++ [g]) m s) := by
  have en := r.1
  have F : ∀ wv sv ov : Int, Fr (fRow 62) h (upd2 (upd2 (upd2 (upd2 (upd2 (upd2 (upd2 h 63 (h 62 6) g) 64 (h 62 6) (m g)) 65 (h 62 6) (s g)) 66 (h 62 6) wv) 67 (h 62 6) sv) 68 (h 62 6) ov) 62 6 ((h 62 6) + 1)) := fun wv sv ov => ((((((Fr.rf.up (.inr ⟨by decide, by decide⟩)).up (.inr ⟨by decide, by decide⟩)).up (.inr ⟨by decide, by decide⟩)).up (.inr ⟨by decide, by decide⟩)).up (.inr ⟨by decide, by decide⟩)).up (.inr ⟨by decide, by decide⟩)).up (.inl ⟨rfl, rfl⟩)
  by_cases h0 : l.length = 0
  · refine S198_62_0 _ _ _ ⟨fun w => absurd w (by omega), fun _ => ⟨fun _ => ⟨fun _ => ⟨rfl, F _ _ _, row_app r hl ?_ ?_ ?_⟩, fun w => absurd w (by omega)⟩, fun w => absurd w (by omega)⟩⟩
    · rw [h0]; rfl
    · rw [h0]; rfl
    · rw [h0]; rfl
  · obtain ⟨p, hp⟩ : ∃ p : Nat, l.length = p + 1 := ⟨l.length - 1, by omega⟩
    have e1 : h 62 6 - 1 = (p : Int) := by omega
    have rp := r.2.2 p (by omega)
    have sr := swy_r (s := msq m l) p
    have c : ∀ j, j ≤ p → msq m (l ++ [g]) j = msq m l j := fun j hj => msq_app (by omega)
    have ep : msq m (l ++ [g]) (p + 1) = m g := by rw [← hp]; exact msq_eq
    have em : h 64 p = msq m l p := rp.2.1
    have gw : wy (msq m (l ++ [g])) l.length = sg (m g - msq m l p) := by
      rw [hp]
      show sg (msq m (l ++ [g]) (p + 1) - msq m (l ++ [g]) p) = _
      rw [ep, c p (Nat.le_refl _)]
    have gs : swy (msq m (l ++ [g])) l.length = if sg (m g - msq m l p) = 0 then 1 else if sg (m g - msq m l p) = wy (msq m l) p then swy (msq m l) p + 1 else 2 := by
      rw [← gw, hp]
      show (if wy (msq m (l ++ [g])) (p + 1) = 0 then _ else _) = _
      rw [wy_cg c, swy_cg c]
    have go : owy (msq m (l ++ [g])) l.length = if sg (m g - msq m l p) = 0 then 1 else if sg (m g - msq m l p) = wy (msq m l) p then 2 else owy (msq m l) p + 1 := by
      rw [← gw, hp]
      show (if wy (msq m (l ++ [g])) (p + 1) = 0 then _ else _) = _
      rw [wy_cg c, owy_cg c]
    have e4 : h 66 p = wy (msq m l) p := rp.2.2.2.1
    have e5 : h 67 p = swy (msq m l) p := rp.2.2.2.2.1
    have e6 : h 68 p = owy (msq m l) p := rp.2.2.2.2.2
    refine S198_62_0 _ _ _ ⟨fun w => absurd w (by omega), fun _ => ⟨fun _ => ⟨fun w => absurd w (by omega), fun _ => ?_⟩, fun w => absurd w (by omega)⟩⟩
    rw [e1, em, e4, e5, e6]
    refine ⟨⟨by omega, by omega⟩, fun w => ⟨fun w2 => ?_, fun w2 => ?_⟩, fun w => ?_⟩
    · have e : sg (m g - msq m l p) = -1 := by unfold sg; rw [if_neg (by omega), if_pos (by omega)]
      rw [e] at gw gs go
      rw [if_neg (by decide)] at gs go
      refine ⟨fun w3 => ⟨by unfold R32; omega, rfl, F _ _ _, row_app r hl gw.symm ?_ ?_⟩, fun w3 => ⟨by unfold R32; omega, rfl, F _ _ _, row_app r hl gw.symm ?_ ?_⟩⟩
      · rw [gs, if_neg w3]
      · rw [go, if_neg w3]
      · rw [gs, if_pos w3]
      · rw [go, if_pos w3]
    · have e : sg (m g - msq m l p) = 1 := by unfold sg; rw [if_pos (by omega)]
      rw [e] at gw gs go
      rw [if_neg (by decide)] at gs go
      refine ⟨fun w3 => ⟨by unfold R32; omega, rfl, F _ _ _, row_app r hl gw.symm ?_ ?_⟩, fun w3 => ⟨by unfold R32; omega, rfl, F _ _ _, row_app r hl gw.symm ?_ ?_⟩⟩
      · rw [gs, if_neg w3]
      · rw [go, if_neg w3]
      · rw [gs, if_pos w3]
      · rw [go, if_pos w3]
    · have e : sg (m g - msq m l p) = 0 := by unfold sg; rw [if_neg (by omega), if_neg (by omega)]
      rw [e] at gw gs go
      rw [if_pos rfl] at gs go
      exact ⟨rfl, F _ _ _, row_app r hl gw.symm gs.symm go.symm⟩
/-- middle and step as they are kept; the reach from the first middle on -/
def LL1 (q : LN) (O : Nat) (h : HP) : Prop := h 36 0 = qM q O ∧ h 36 1 = qS q O ∧ h 36 2 = qP q O ∧ (0 < qM q O → h 36 3 = q.2.2.2.2) ∧ h 36 4 = O
theorem LL0.weak {q : LN} {O : Nat} {h : HP} (c : LL0 q O h) : LL1 q O h := ⟨c.1, c.2.1, c.2.2.1, fun _ => c.2.2.2.1, c.2.2.2.2⟩
theorem LL1.up {q : LN} {O : Nat} {h : HP} (c : LL1 q O h) (hM : 0 < qM q O) : LL0 q O h := ⟨c.1, c.2.1, c.2.2.1, c.2.2.2.1 hM, c.2.2.2.2⟩
theorem LL1.fr {q : LN} {O : Nat} {h h' : HP} {C : Nat → Int → Prop} (c : LL1 q O h) (F : Fr C h h') (n : ∀ j, ¬ C 36 j) : LL1 q O h' := by
  unfold LL1
  rw [F 36 0 (n _), F 36 1 (n _), F 36 2 (n _), F 36 3 (n _), F 36 4 (n _)]
  exact c
/-- what reckon() makes, of values, base, reach -/
def Der (q : LN) (h : HP) : Prop := h 8 8 = q.2.1 ∧ CV q.1 q.2.1 h ∧ LL1 q (ob q) h ∧ RowIs 37 h (rwl q.1 q.2.1.toNat) (mnV q.1) (fun g => qst q (mnV q.1 g))
def fD (a : Nat) (j : Int) : Prop := (14 ≤ a ∧ a ≤ 36) ∨ (a = 8 ∧ j = 9) ∨ (a = 37 ∧ j = 6) ∨ (38 ≤ a ∧ a ≤ 43)
theorem CV.fr {V : Int → Int} {G : Int} {h h' : HP} {C : Nat → Int → Prop} (c : CV V G h) (hG : G ≤ 20) (F : Fr C h h') (n8 : ¬ C 8 9) (n : ∀ a j, 14 ≤ a → a ≤ 35 → ¬ C a j) : CV V G h' := by
  refine ⟨fun g a b => ?_, (F 8 9 n8).trans c.2⟩
  have := c.1 g a b
  refine ⟨fun p a1 b1 => ?_, ?_, ?_⟩
  · rw [F _ _ (n _ _ (by omega) (by omega))]; exact this.1 p a1 b1
  · rw [F _ _ (n _ _ (by omega) (by omega))]; exact this.2.1
  · rw [F _ _ (n _ _ (by omega) (by omega))]; exact this.2.2
theorem LL0.fr {q : LN} {O : Nat} {h h' : HP} {C : Nat → Int → Prop} (c : LL0 q O h) (F : Fr C h h') (n : ∀ j, ¬ C 36 j) : LL0 q O h' := by
  unfold LL0
  rw [F 36 0 (n _), F 36 1 (n _), F 36 2 (n _), F 36 3 (n _), F 36 4 (n _)]
  exact c
theorem L32 {q : LN} (hL : Lok q) {h0 : HP} {Q : bQ} (cont : ∀ h, Fr (fRow 37) h0 h → RowIs 37 h (rwl q.1 q.2.1.toNat) (mnV q.1) (fun g => qst q (mnV q.1 g)) → Q none h) (c0 : CVm q.1 q.2.1 h0) (L0 : LL0 q (ob q) h0) : ∀ (k n : Nat) (h : HP), (n : Int) + k = q.2.1 → Fr (fRow 37) h0 h → RowIs 37 h (rwl q.1 n) (mnV q.1) (fun g => qst q (mnV q.1 g)) → Wp X 5 32 51 [vr 6, vi n] [] h Q := by
  intro k
  induction k with
  | zero =>
    intro n h hn F r
    have c := c0.fr F (by unfold fRow; omega) (fun j => by unfold fRow; omega) (fun j => by unfold fRow; omega)
    rw [show n = q.2.1.toNat by omega] at r
    exact S32_6_51 _ ⟨fun _ => cont h F r, fun w => absurd w (by rw [c.1]; omega)⟩
  | succ k ih =>
    intro n h hn F r
    have c := c0.fr F (by unfold fRow; omega) (fun j => by unfold fRow; omega) (fun j => by unfold fRow; omega)
    have L := L0.fr F (fun j => by unfold fRow; omega)
    have hq := hL.2.2.1
    have cc := c.2 n (by omega) (by omega)
    have hl := rwl_len (V := q.1) n
    refine S32_6_51 _ ⟨fun w => absurd w (by rw [c.1]; omega), fun _ => ⟨fun w => absurd w (by omega), fun _ => ⟨⟨by omega, by omega⟩, fun w => ?_, fun w => ?_⟩⟩⟩
    · by_cases hc : cnp q.1 n 5 = 0
      · rw [cc.1, if_pos hc] at w; exact absurd rfl w
      · rw [cc.1, if_neg hc]
        refine (K172 hL L (mnV_r hL.1 n)).mono fun v h1 _ e => ?_
        obtain ⟨rfl, rfl⟩ := e
        refine S32_6_101 _ _ _ _ ((K198_37 (s := fun g => qst q (mnV q.1 g)) r (by omega)).mono fun v h2 _ e => ?_)
        obtain ⟨rfl, F2, r2⟩ := e
        refine S32_6_104 _ ⟨by unfold R32; omega, ih (n + 1) h2 (by omega) (F.tr F2) ?_⟩
        rw [show rwl q.1 (n + 1) = rwl q.1 n ++ [(n : Int)] from if_neg hc]
        exact r2
    · have hc : cnp q.1 n 5 = 0 := by
        by_cases hc : cnp q.1 n 5 = 0
        · exact hc
        · rw [cc.1, if_neg hc] at w
          have := mnV_r hL.1 n
          omega
      refine S32_6_104 _ ⟨by unfold R32; omega, ih (n + 1) h (by omega) F ?_⟩
      rw [show rwl q.1 (n + 1) = rwl q.1 n from if_pos hc]
      exact r
/-- the class's settings of the base -/
def cq5 (h : HP) : LN := (CVL h (h 7 3), h 8 8, h 7 0, h 7 1, h 7 2)
theorem K32 {h0 : HP} (C : Cok h0) (s0 : 0 ≤ h0 7 0 ∧ h0 7 0 ≤ 19) (s1 : 0 ≤ h0 7 1 ∧ h0 7 1 ≤ 19) (s2 : 0 ≤ h0 7 2 ∧ h0 7 2 ≤ 999) : Wp X 5 32 0 [vr 6, vu] [] h0 (fun r h => r = none ∧ Fr fD h0 h ∧ Der (cq5 h0) h) := by
  have hL : Lok (cq5 h0) := ⟨CVL_ok C, C.1.1, C.1.2.1, s0.1, s0.2, s1.1, s1.2, s2.1, s2.2⟩
  refine S32_6_0 ((K154 C).mono fun v h1 _ e => ?_)
  obtain ⟨rfl, F1, V1⟩ := e
  have e7 : ∀ j, h1 7 j = h0 7 j := fun j => F1 7 j (by unfold fK; omega)
  have e8 : h1 8 8 = h0 8 8 := F1 8 8 (by unfold fK; omega)
  refine S32_6_13 ?_
  rw [e7, e7, e7]
  refine (K165 (q := cq5 h0) hL ⟨e8, fun g a b => (V1.1 g a b).2⟩).mono fun v h2 _ e => ?_
  obtain ⟨rfl, F2, L2⟩ := e
  have V2 := V1.fr C.1.2.1 F2 (by unfold f36; omega) (fun a j a1 a2 => by unfold f36; omega)
  have e28 : h2 8 8 = h0 8 8 := (F2 8 8 (by unfold f36; omega)).trans e8
  refine S32_6_42 ?_
  have F3 : Fr (fRow 37) h2 (upd2 h2 37 6 0) := Fr.rf.up (.inl ⟨rfl, rfl⟩)
  have V3 := V2.fr C.1.2.1 F3 (by unfold fRow; omega) (fun a j a1 a2 => by unfold fRow; omega)
  have L3 := L2.fr F3 (fun j => by unfold fRow; omega)
  have e38 : upd2 h2 37 6 0 8 8 = h0 8 8 := (F3 8 8 (by unfold fRow; omega)).trans e28
  have g := C.1.1
  refine L32 hL (fun h F r => ?_) ⟨e38, fun g a b => (V3.1 g a b).2⟩ L3 (h0 8 8).toNat 0 _ (by show _ = h0 8 8; omega) Fr.rf ⟨upd2_s, Nat.zero_le _, fun i hi => absurd hi (Nat.not_lt_zero i)⟩
  refine ⟨rfl, ?_, (F 8 8 (by unfold fRow; omega)).trans e38, V3.fr C.1.2.1 F (by unfold fRow; omega) (fun a j a1 a2 => by unfold fRow; omega), (L3.fr F (fun j => by unfold fRow; omega)).weak, r⟩
  exact (F1.mo fun a j c => by unfold fK at c; unfold fD; omega).tr ((F2.mo fun a j c => by unfold f36 at c; unfold fD; omega).tr ((F3.mo fun a j c => by unfold fRow at c; unfold fD; omega).tr (F.mo fun a j c => by unfold fRow at c; unfold fD; omega)))
end
