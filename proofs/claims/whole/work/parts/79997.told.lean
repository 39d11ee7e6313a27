-- ===== warned: the first, how many =====
def wcn (h : HP) (t : Int) (l : List Int) : Nat → Int
  | 0 => 0
  | p + 1 => wcn h t l p + (if wby h t l p ≠ 0 then 1 else 0)
theorem wcn_r {h : HP} {t : Int} {l : List Int} : ∀ p : Nat, 0 ≤ wcn h t l p ∧ wcn h t l p ≤ p
  | 0 => ⟨Int.le_refl 0, Int.le_refl 0⟩
  | p + 1 => by
    have ih := wcn_r (h := h) (t := t) (l := l) p
    show 0 ≤ wcn h t l p + (if wby h t l p ≠ 0 then 1 else 0) ∧ wcn h t l p + (if wby h t l p ≠ 0 then 1 else 0) ≤ ((p + 1 : Nat) : Int)
    split <;> omega
def wff (h : HP) (t : Int) (l : List Int) : Nat → Nat → Int
  | 0, _ => -1
  | f + 1, p => if wby h t l p ≠ 0 then l.getD p 0 else wff h t l f (p + 1)
section
variable {X : Nat × (Int → Int)}
theorem K34_45 {h : HP} (i : Inv h) (hf : B_fault h 0 = -1) : Wp X 4 34 0 [vr 6, vr 45, vu] [] h (fun v h' => v = some (vi (wff h 0 (rwl (VL h) (gn h)) (rwl (VL h) (gn h)).length 0)) ∧ h' = h) := by
  have td : I_txt 45 0 h := by have x := i.1.2.2.2.1; first | exact x.2.1 | exact x.2.2
  have ff := td.2.2.2 hf
  have r := i.row
  have hl := r.2.1
  have Lp : ∀ (f p : Nat), p + f = (rwl (VL h) (gn h)).length → Wp X 4 34 2 [vr 6, vr 45, vi p] [] h (fun v h' => v = some (vi (wff h 0 (rwl (VL h) (gn h)) f p)) ∧ h' = h) := by
    intro f
    induction f with
    | zero =>
      intro p hp
      exact S34_6_45_2 _ ⟨fun _ => ⟨rfl, rfl⟩, fun c => absurd c (by rw [r.1]; omega)⟩
    | succ f ih =>
      intro p hp
      have e38 : h 38 (p : Int) = (rwl (VL h) (gn h)).getD p 0 := (r.2.2 p (by omega)).1
      have er : wff h 0 (rwl (VL h) (gn h)) (f + 1) p = if wby h 0 (rwl (VL h) (gn h)) p ≠ 0 then (rwl (VL h) (gn h)).getD p 0 else wff h 0 (rwl (VL h) (gn h)) f (p + 1) := rfl
      refine S34_6_45_2 _ ⟨fun c => absurd c (by rw [r.1]; omega), fun _ => (K208_45_37 NRu_ok ff.2 r (fun _ => qsg_r) (p := p) (by omega)).mono fun v h2 _ f => ?_⟩
      obtain ⟨rfl, rfl⟩ := f
      have ew : bys (RTi (Wt h2 0) (mnV (VL h2)) (qsg (mq5 h2)) (rwl (VL h2) (gn h2)) p) (NRu (Wt h2 0) (h2 104 0)) = wby h2 0 (rwl (VL h2) (gn h2)) p := rfl
      rw [ew, er]
      refine S34_6_45_22 _ _ ⟨fun q => ⟨by unfold R32; omega, ?_⟩, fun q => ⟨fun c => absurd c (by omega), fun _ => ⟨fun c => absurd c (by rw [r.1]; omega), fun _ => ⟨⟨by omega, by omega⟩, ?_, rfl⟩⟩⟩⟩
      · rw [if_neg (fun w => by rw [if_pos w] at q; omega)]
        exact ih (p + 1) (by omega)
      · rw [if_pos (fun w => q (by rw [if_neg (fun x => x w)])), e38]
  exact S34_6_45_0 (Lp _ 0 (Nat.zero_add _))
theorem K35_45 {h : HP} (i : Inv h) (hf : B_fault h 0 = -1) : Wp X 4 35 0 [vr 6, vr 45, vu, vu] [] h (fun v h' => v = some (vi (wcn h 0 (rwl (VL h) (gn h)) (rwl (VL h) (gn h)).length)) ∧ h' = h) := by
  have td : I_txt 45 0 h := by have x := i.1.2.2.2.1; first | exact x.2.1 | exact x.2.2
  have ff := td.2.2.2 hf
  have r := i.row
  have hl := r.2.1
  have Lp : ∀ (f p : Nat), p + f = (rwl (VL h) (gn h)).length → Wp X 4 35 4 [vr 6, vr 45, vi (wcn h 0 (rwl (VL h) (gn h)) p), vi p] [] h (fun v h' => v = some (vi (wcn h 0 (rwl (VL h) (gn h)) (rwl (VL h) (gn h)).length)) ∧ h' = h) := by
    intro f
    induction f with
    | zero =>
      intro p hp
      have hp : p = (rwl (VL h) (gn h)).length := by omega
      subst hp
      exact S35_6_45_4 _ _ ⟨fun _ => ⟨rfl, rfl⟩, fun c => absurd c (by rw [r.1]; omega)⟩
    | succ f ih =>
      intro p hp
      have wr := wcn_r (h := h) (t := 0) (l := rwl (VL h) (gn h)) p
      have er : wcn h 0 (rwl (VL h) (gn h)) (p + 1) = wcn h 0 (rwl (VL h) (gn h)) p + (if wby h 0 (rwl (VL h) (gn h)) p ≠ 0 then 1 else 0) := rfl
      have go : ∀ v : Int, v = wcn h 0 (rwl (VL h) (gn h)) (p + 1) → Wp X 4 35 4 [vr 6, vr 45, vi v, vi ((p : Int) + 1)] [] h (fun v h' => v = some (vi (wcn h 0 (rwl (VL h) (gn h)) (rwl (VL h) (gn h)).length)) ∧ h' = h) := fun v ev => by
        rw [ev]; exact ih (p + 1) (by omega)
      clear ih
      refine S35_6_45_4 _ _ ⟨fun c => absurd c (by rw [r.1]; omega), fun _ => (K208_45_37 NRu_ok ff.2 r (fun _ => qsg_r) (p := p) (by omega)).mono fun v h2 _ f => ?_⟩
      obtain ⟨rfl, rfl⟩ := f
      have ew : bys (RTi (Wt h2 0) (mnV (VL h2)) (qsg (mq5 h2)) (rwl (VL h2) (gn h2)) p) (NRu (Wt h2 0) (h2 104 0)) = wby h2 0 (rwl (VL h2) (gn h2)) p := rfl
      rw [ew]
      refine S35_6_45_24 _ _ _ ⟨fun q => ⟨by unfold R32; omega, go _ ?_⟩, fun q => ⟨by unfold R32; omega, by unfold R32; omega, go _ ?_⟩⟩
      · rw [er, if_neg (fun w => by rw [if_pos w] at q; omega)]; omega
      · rw [er, if_pos (fun w => q (by rw [if_neg (fun x => x w)]))]
  exact S35_6_45_0 (Lp _ 0 (Nat.zero_add _))
theorem K34_53 {h : HP} (i : Inv h) (hf : B_fault h 1 = -1) : Wp X 4 34 0 [vr 6, vr 53, vu] [] h (fun v h' => v = some (vi (wff h 1 (rwl (VL h) (gn h)) (rwl (VL h) (gn h)).length 0)) ∧ h' = h) := by
  have td : I_txt 53 1 h := by have x := i.1.2.2.2.1; first | exact x.2.1 | exact x.2.2
  have ff := td.2.2.2 hf
  have r := i.row
  have hl := r.2.1
  have Lp : ∀ (f p : Nat), p + f = (rwl (VL h) (gn h)).length → Wp X 4 34 2 [vr 6, vr 53, vi p] [] h (fun v h' => v = some (vi (wff h 1 (rwl (VL h) (gn h)) f p)) ∧ h' = h) := by
    intro f
    induction f with
    | zero =>
      intro p hp
      exact S34_6_53_2 _ ⟨fun _ => ⟨rfl, rfl⟩, fun c => absurd c (by rw [r.1]; omega)⟩
    | succ f ih =>
      intro p hp
      have e38 : h 38 (p : Int) = (rwl (VL h) (gn h)).getD p 0 := (r.2.2 p (by omega)).1
      have er : wff h 1 (rwl (VL h) (gn h)) (f + 1) p = if wby h 1 (rwl (VL h) (gn h)) p ≠ 0 then (rwl (VL h) (gn h)).getD p 0 else wff h 1 (rwl (VL h) (gn h)) f (p + 1) := rfl
      refine S34_6_53_2 _ ⟨fun c => absurd c (by rw [r.1]; omega), fun _ => (K208_53_37 NRu_ok ff.2 r (fun _ => qsg_r) (p := p) (by omega)).mono fun v h2 _ f => ?_⟩
      obtain ⟨rfl, rfl⟩ := f
      have ew : bys (RTi (Wt h2 1) (mnV (VL h2)) (qsg (mq5 h2)) (rwl (VL h2) (gn h2)) p) (NRu (Wt h2 1) (h2 104 1)) = wby h2 1 (rwl (VL h2) (gn h2)) p := rfl
      rw [ew, er]
      refine S34_6_53_22 _ _ ⟨fun q => ⟨by unfold R32; omega, ?_⟩, fun q => ⟨fun c => absurd c (by omega), fun _ => ⟨fun c => absurd c (by rw [r.1]; omega), fun _ => ⟨⟨by omega, by omega⟩, ?_, rfl⟩⟩⟩⟩
      · rw [if_neg (fun w => by rw [if_pos w] at q; omega)]
        exact ih (p + 1) (by omega)
      · rw [if_pos (fun w => q (by rw [if_neg (fun x => x w)])), e38]
  exact S34_6_53_0 (Lp _ 0 (Nat.zero_add _))
theorem K35_53 {h : HP} (i : Inv h) (hf : B_fault h 1 = -1) : Wp X 4 35 0 [vr 6, vr 53, vu, vu] [] h (fun v h' => v = some (vi (wcn h 1 (rwl (VL h) (gn h)) (rwl (VL h) (gn h)).length)) ∧ h' = h) := by
  have td : I_txt 53 1 h := by have x := i.1.2.2.2.1; first | exact x.2.1 | exact x.2.2
  have ff := td.2.2.2 hf
  have r := i.row
  have hl := r.2.1
  have Lp : ∀ (f p : Nat), p + f = (rwl (VL h) (gn h)).length → Wp X 4 35 4 [vr 6, vr 53, vi (wcn h 1 (rwl (VL h) (gn h)) p), vi p] [] h (fun v h' => v = some (vi (wcn h 1 (rwl (VL h) (gn h)) (rwl (VL h) (gn h)).length)) ∧ h' = h) := by
    intro f
    induction f with
    | zero =>
      intro p hp
      have hp : p = (rwl (VL h) (gn h)).length := by omega
      subst hp
      exact S35_6_53_4 _ _ ⟨fun _ => ⟨rfl, rfl⟩, fun c => absurd c (by rw [r.1]; omega)⟩
    | succ f ih =>
      intro p hp
      have wr := wcn_r (h := h) (t := 1) (l := rwl (VL h) (gn h)) p
      have er : wcn h 1 (rwl (VL h) (gn h)) (p + 1) = wcn h 1 (rwl (VL h) (gn h)) p + (if wby h 1 (rwl (VL h) (gn h)) p ≠ 0 then 1 else 0) := rfl
      have go : ∀ v : Int, v = wcn h 1 (rwl (VL h) (gn h)) (p + 1) → Wp X 4 35 4 [vr 6, vr 53, vi v, vi ((p : Int) + 1)] [] h (fun v h' => v = some (vi (wcn h 1 (rwl (VL h) (gn h)) (rwl (VL h) (gn h)).length)) ∧ h' = h) := fun v ev => by
        rw [ev]; exact ih (p + 1) (by omega)
      clear ih
      refine S35_6_53_4 _ _ ⟨fun c => absurd c (by rw [r.1]; omega), fun _ => (K208_53_37 NRu_ok ff.2 r (fun _ => qsg_r) (p := p) (by omega)).mono fun v h2 _ f => ?_⟩
      obtain ⟨rfl, rfl⟩ := f
      have ew : bys (RTi (Wt h2 1) (mnV (VL h2)) (qsg (mq5 h2)) (rwl (VL h2) (gn h2)) p) (NRu (Wt h2 1) (h2 104 1)) = wby h2 1 (rwl (VL h2) (gn h2)) p := rfl
      rw [ew]
      refine S35_6_53_24 _ _ _ ⟨fun q => ⟨by unfold R32; omega, go _ ?_⟩, fun q => ⟨by unfold R32; omega, by unfold R32; omega, go _ ?_⟩⟩
      · rw [er, if_neg (fun w => by rw [if_pos w] at q; omega)]; omega
      · rw [er, if_pos (fun w => q (by rw [if_neg (fun x => x w)]))]
  exact S35_6_53_0 (Lp _ 0 (Nat.zero_add _))
theorem K102 {b h : HP} {t : Int} {l : List Int} (i : Inv b) (hP : P h = P b) (v : VV b h) (B : BB (mq5 b) (ob (mq5 b)) h) (hM : 0 < qM (mq5 b) (ob (mq5 b))) (lk : LKd b h l) (m : MS h (Wt b t) (NRu (Wt b t) (b 104 t))) (e16 : h 89 16 = l.length) : Wp X 4 102 0 [vr 89, vu, vu] [] h (fun r h' => r = some (vi (wcn b t l l.length)) ∧ h' = h) := by
  have rk := NRu_ok (w := Wt b t) (len := b 104 t)
  have hl := lk.2.1
  have Lp : ∀ (f p : Nat), p + f = l.length → Wp X 4 102 4 [vr 89, vi (wcn b t l p), vi p] [] h (fun r h' => r = some (vi (wcn b t l l.length)) ∧ h' = h) := by
    intro f
    induction f with
    | zero =>
      intro p hp
      have hp : p = l.length := by omega
      subst hp
      exact S102_89_4 _ _ ⟨fun _ => ⟨rfl, rfl⟩, fun c => absurd c (by omega)⟩
    | succ f ih =>
      intro p hp
      have wr := wcn_r (h := b) (t := t) (l := l) p
      have er : wcn b t l (p + 1) = wcn b t l p + (if wby b t l p ≠ 0 then 1 else 0) := rfl
      have go : ∀ v : Int, v = wcn b t l (p + 1) → Wp X 4 102 4 [vr 89, vi v, vi ((p : Int) + 1)] [] h (fun r h' => r = some (vi (wcn b t l l.length)) ∧ h' = h) := fun v ev => by
        rw [ev]; exact ih (p + 1) (by omega)
      clear ih
      refine S102_89_4 _ _ ⟨fun c => absurd c (by omega), fun _ => (K97 i.tok i.sok hP v B hM lk m rk.1 rk.2 (p := p) (by omega)).mono fun v h2 _ f => ?_⟩
      obtain ⟨rfl, rfl⟩ := f
      have ew : bys (RTi (Wt b t) (mnV (VL b)) (qsg (mq5 b)) l p) (NRu (Wt b t) (b 104 t)) = wby b t l p := rfl
      rw [ew]
      refine S102_89_18 _ _ _ _ ⟨fun q => ⟨by unfold R32; omega, by unfold R32; omega, go _ ?_⟩, fun q => ⟨by unfold R32; omega, by unfold R32; omega, go _ ?_⟩⟩
      · rw [er, if_neg (fun w => by omega)]
      · rw [er, if_pos (fun w => by omega)]
  exact S102_89_0 (Lp l.length 0 (by omega))
theorem K106_29 {b h : HP} {t : Int} (i : Inv b) (hP : P h = P b) (v : VV b h) (B : BB (mq5 b) (ob (mq5 b)) h) (hM : 0 < qM (mq5 b) (ob (mq5 b))) (lk : LKd b h (rwl (VL b) (gn b))) (m : MS h (Wt b t) (NRu (Wt b t) (b 104 t))) {z1 z2 : aV} : Wp X 6 106 29 [vr 89, z1, z2, vi 0] [] h (fun r h' => r = some (vi (wff b t (rwl (VL b) (gn b)) (rwl (VL b) (gn b)).length 0)) ∧ h' = h) := by
  have rk := NRu_ok (w := Wt b t) (len := b 104 t)
  have hl := lk.2.1
  have e16 := v.2.2.2
  have ar := v.2.2.1
  have Lp : ∀ (f p : Nat) (z1 z2 : aV), p + f = (rwl (VL b) (gn b)).length → Wp X 6 106 29 [vr 89, z1, z2, vi p] [] h (fun r h' => r = some (vi (wff b t (rwl (VL b) (gn b)) f p)) ∧ h' = h) := by
    intro f
    induction f with
    | zero =>
      intro p z1 z2 hp
      exact S106_89_29 _ _ _ ⟨fun _ => ⟨rfl, rfl⟩, fun c => absurd c (by omega)⟩
    | succ f ih =>
      intro p z1 z2 hp
      have er : wff b t (rwl (VL b) (gn b)) (f + 1) p = if wby b t (rwl (VL b) (gn b)) p ≠ 0 then (rwl (VL b) (gn b)).getD p 0 else wff b t (rwl (VL b) (gn b)) f (p + 1) := rfl
      refine S106_89_29 _ _ _ ⟨fun c => absurd c (by omega), fun _ => (K97 i.tok i.sok hP v B hM lk m rk.1 rk.2 (p := p) (by omega)).mono fun v h2 _ f => ?_⟩
      obtain ⟨rfl, rfl⟩ := f
      have ew : bys (RTi (Wt b t) (mnV (VL b)) (qsg (mq5 b)) (rwl (VL b) (gn b)) p) (NRu (Wt b t) (b 104 t)) = wby b t (rwl (VL b) (gn b)) p := rfl
      rw [ew, er]
      refine S106_89_42 _ _ _ _ ⟨fun q => ⟨by unfold R32; omega, ?_⟩, fun q => ⟨⟨by omega, by omega⟩, ?_, rfl⟩⟩
      · rw [if_neg (fun w => by omega)]
        exact ih (p + 1) _ _ (by omega)
      · rw [if_pos (fun w => by omega), ar p (by omega)]
  exact Lp _ 0 _ _ (Nat.zero_add _)
end
