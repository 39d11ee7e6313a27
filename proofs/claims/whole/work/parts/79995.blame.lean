-- ===== blamed agrees =====
theorem T127_89_58 {X : Nat × (Int → Int)} {h : HP} {Q : bQ} (zx1 : aV) (x2 : Int) (x3 : Int) (x4 : Int) (x5 : Int) (x6 : Int) (x7 : Int) (x8 : Int) (H : (((h 89 38) ≤ x8 → ((x7 = 0 → ((R32 (x5 + 0)) ∧ ((R32 (x6 + 1)) ∧ Wp X 4 127 43 [vr 89, zx1, vi x2, vi x3, vi x4, vi (x5 + 0), vi (x6 + 1), vi x7, vi x8] [] h Q))) ∧ (x7 ≠ 0 → Wp X 3 97 0 [vr 89, vi x6, vu, vu] [] h (fun v h' => Wp X 4 127 148 [vr 89, zx1, vi x2, vi x3, vi x4, vi x5, vi x6, vi x7, vi x8] (psh v [vi x5]) h' Q)))) ∧ (x8 < (h 89 38) → ((x7 ≠ 0 → ((R32 (x8 + 1)) ∧ Wp X 4 127 58 [vr 89, zx1, vi x2, vi x3, vi x4, vi x5, vi x6, vi 1, vi (x8 + 1)] [] h Q)) ∧ (x7 = 0 → ((0 ≤ x8 ∧ x8 < 12) ∧ (((h 118 x8) ≠ x4 → Wp X 4 127 58 [vr 89, zx1, vi x2, vi x3, vi x4, vi x5, vi x6, vi 0, vi (x8 + 1)] [] h Q) ∧ ((h 118 x8) = x4 → ((0 ≤ x6 ∧ x6 < 20) ∧ ((R32 ((h 102 x6) - (h 97 6))) ∧ (((h 119 x8) < ((h 102 x6) - (h 97 6)) → Wp X 4 127 58 [vr 89, zx1, vi x2, vi x3, vi x4, vi x5, vi x6, vi 0, vi (x8 + 1)] [] h Q) ∧ (((h 102 x6) - (h 97 6)) ≤ (h 119 x8) → (((h 102 x6) < (h 119 x8) → Wp X 4 127 58 [vr 89, zx1, vi x2, vi x3, vi x4, vi x5, vi x6, vi 0, vi (x8 + 1)] [] h Q) ∧ ((h 119 x8) ≤ (h 102 x6) → Wp X 4 127 58 [vr 89, zx1, vi x2, vi x3, vi x4, vi x5, vi x6, vi 1, vi (x8 + 1)] [] h Q)))))))))))))) : Wp X 4 127 58 [vr 89, zx1, vi x2, vi x3, vi x4, vi x5, vi x6, vi x7, vi x8] [] h Q := S127_89_58 zx1 x2 x3 x4 x5 x6 x7 x8 (by simp only [lcp_l, lcp_ge, lcp_g, lcp_le, lcp_e, lcp_n]; exact H)
def hasc (kd gr : Int → Int) (k a b : Int) : Nat → Nat → Int
  | 0, _ => 0
  | f + 1, i => if kd i = k ∧ a ≤ gr i ∧ gr i ≤ b then 1 else hasc kd gr k a b f (i + 1)
theorem hasc_r {kd gr : Int → Int} {k a b : Int} : ∀ f i : Nat, hasc kd gr k a b f i = 0 ∨ hasc kd gr k a b f i = 1
  | 0, _ => .inl rfl
  | f + 1, i => by
    have ih := hasc_r (kd := kd) (gr := gr) (k := k) (a := a) (b := b) f (i + 1)
    have er : hasc kd gr k a b (f + 1) i = if kd i = k ∧ a ≤ gr i ∧ gr i ≤ b then 1 else hasc kd gr k a b f (i + 1) := rfl
    rw [er]
    split
    · exact .inr rfl
    · exact ih
def hcs (h : HP) (k g : Int) : Int := hasc (h 118) (h 119) k (g - h 97 6) g (h 89 38).toNat 0
def blc (h : HP) (t k : Int) : Nat → Int
  | 0 => 0
  | p + 1 => blc h t k p + (if wby h t (rwl (VL h) (gn h)) p ≠ 0 ∧ hcs h k ((rwl (VL h) (gn h)).getD p 0) = 1 then 1 else 0)
theorem blc_r {h : HP} {t k : Int} : ∀ p : Nat, 0 ≤ blc h t k p ∧ blc h t k p ≤ p
  | 0 => ⟨Int.le_refl 0, Int.le_refl 0⟩
  | p + 1 => by
    have ih := blc_r (h := h) (t := t) (k := k) p
    show 0 ≤ blc h t k p + (if wby h t (rwl (VL h) (gn h)) p ≠ 0 ∧ hcs h k ((rwl (VL h) (gn h)).getD p 0) = 1 then 1 else 0) ∧ blc h t k p + (if wby h t (rwl (VL h) (gn h)) p ≠ 0 ∧ hcs h k ((rwl (VL h) (gn h)).getD p 0) = 1 then 1 else 0) ≤ ((p + 1 : Nat) : Int)
    split <;> omega
def bst (c : Int → Int) : Nat → Nat → Int → Int → Int
  | 0, _, _, b => b
  | f + 1, k, x, b => if c k ≤ x then bst c f (k + 1) x b else bst c f (k + 1) (c k) k
def blk (h : HP) (t k : Int) : Int := blc h t k (rwl (VL h) (gn h)).length
def B_blame (h : HP) (t : Int) : Int := if B_fault h t = -1 ∧ 0 < qM (mq5 h) (ob (mq5 h)) then bst (blk h t) 6 0 0 (-1) else -3
def A_blame (h : HP) (t : Int) : Int := if 0 ≤ t ∧ t ≤ 1 then B_blame h t else -2
section
variable {X : Nat × (Int → Int)}
theorem K140 {h : HP} {kd gr : Int → Int} {n : Nat} {k a b : Int} (e2 : h 77 2 = n) (hn : n ≤ 12) (e : ∀ k : Nat, k < n → h 78 k = kd k ∧ h 79 k = gr k) : Wp X 0 140 0 [vr 77, vi k, vi a, vi b, vu] [] h (fun v h' => v = some (vi (hasc kd gr k a b n 0)) ∧ h' = h) := by
  have Lp : ∀ f i : Nat, i + f = n → Wp X 0 140 3 [vr 77, vi k, vi a, vi b, vi i] [] h (fun v h' => v = some (vi (hasc kd gr k a b f i)) ∧ h' = h) := by
    intro f
    induction f with
    | zero => intro i hi; exact S140_77_3 _ _ _ _ ⟨fun _ => ⟨rfl, rfl⟩, fun c => absurd c (by omega)⟩
    | succ f ih =>
      intro i hi
      obtain ⟨e78, e79⟩ := e i (by omega)
      have er : hasc kd gr k a b (f + 1) i = if kd i = k ∧ a ≤ gr i ∧ gr i ≤ b then 1 else hasc kd gr k a b f (i + 1) := rfl
      refine S140_77_3 _ _ _ _ ⟨fun c => absurd c (by omega), fun _ => ⟨⟨by omega, by omega⟩, ?_⟩⟩
      rw [e78, e79, er]
      refine ⟨fun q => ?_, fun q => ⟨fun q2 => ?_, fun q2 => ⟨fun q3 => ?_, fun q3 => ⟨?_, rfl⟩⟩⟩⟩
      · rw [if_neg (fun w => q w.1)]; exact ih (i + 1) (by omega)
      · rw [if_neg (fun w => by omega)]; exact ih (i + 1) (by omega)
      · rw [if_neg (fun w => by omega)]; exact ih (i + 1) (by omega)
      · rw [if_pos ⟨q, q2, q3⟩]
  exact S140_77_0 _ _ _ (Lp n 0 (by omega))
theorem K36_45 {h : HP} (i : Inv h) {k : Int} (hf : B_fault h 0 = -1) : Wp X 4 36 0 [vr 6, vr 45, vi k, vu, vu, vu] [] h (fun v h' => v = some (vi (blk h 0 k)) ∧ h' = h) := by
  have td : I_txt 45 0 h := by have x := i.1.2.2.2.1; first | exact x.2.1 | exact x.2.2
  have ff := td.2.2.2 hf
  have r := i.row
  have hl := r.2.1
  obtain ⟨ic0, ic1, ic2, ic3⟩ := i.1.2.2.2.2.2.1
  have f6 : h 7 6 = h 97 6 := i.1.1.1 6 (by omega) (by omega)
  have s6 := i.1.1.2.2.2.2.2.1
  have f77 : h 77 2 = (h 89 38).toNat := by rw [ic2]; omega
  have f78 : ∀ k : Nat, k < (h 89 38).toNat → h 78 k = h 118 k ∧ h 79 k = h 119 k := fun k hk => (ic3 k (by omega)).2.2.2.2
  have Lp : ∀ (f p : Nat) (z5 : aV), p + f = (rwl (VL h) (gn h)).length → Wp X 4 36 5 [vr 6, vr 45, vi k, vi (blc h 0 k p), vi p, z5] [] h (fun v h' => v = some (vi (blk h 0 k)) ∧ h' = h) := by
    intro f
    induction f with
    | zero =>
      intro p z5 hp
      have hp : p = (rwl (VL h) (gn h)).length := by omega
      subst hp
      exact S36_6_45_5 _ _ _ _ ⟨fun _ => ⟨rfl, rfl⟩, fun c => absurd c (by rw [r.1]; omega)⟩
    | succ f ih =>
      intro p z5 hp
      have br := blc_r (h := h) (t := 0) (k := k) p
      have e38 : h 38 (p : Int) = (rwl (VL h) (gn h)).getD p 0 := (r.2.2 p (by omega)).1
      have gm : (rwl (VL h) (gn h)).getD p 0 ∈ rwl (VL h) (gn h) := getD_mem (by omega)
      have gr := i.rowm.mp gm
      have t := i.tok.1
      have er : blc h 0 k (p + 1) = blc h 0 k p + (if wby h 0 (rwl (VL h) (gn h)) p ≠ 0 ∧ hcs h k ((rwl (VL h) (gn h)).getD p 0) = 1 then 1 else 0) := rfl
      refine S36_6_45_5 _ _ _ _ ⟨fun c => absurd c (by rw [r.1]; omega), fun _ => ⟨fun c => absurd c (by omega), fun _ => ⟨⟨by omega, by omega⟩, (K208_45_37 NRu_ok ff.2 r (fun _ => qsg_r) (p := p) (by omega)).mono fun v h2 _ f => ?_⟩⟩⟩
      obtain ⟨rfl, rfl⟩ := f
      have ew : bys (RTi (Wt h2 0) (mnV (VL h2)) (qsg (mq5 h2)) (rwl (VL h2) (gn h2)) p) (NRu (Wt h2 0) (h2 104 0)) = wby h2 0 (rwl (VL h2) (gn h2)) p := rfl
      rw [ew, e38]
      have go : ∀ (v : Int) (z5 : aV), v = blc h2 0 k (p + 1) → Wp X 4 36 5 [vr 6, vr 45, vi k, vi v, vi ((p : Int) + 1), z5] [] h2 (fun v h' => v = some (vi (blk h2 0 k)) ∧ h' = h2) := fun v z5 ev => by
        rw [ev]; exact ih (p + 1) z5 (by omega)
      clear ih
      refine S36_6_45_38 _ _ _ _ _ ⟨fun q => ⟨by unfold R32; omega, go _ _ ?_⟩, fun q => ⟨by rw [f6]; unfold R32; omega, ?_⟩⟩
      · rw [er, if_neg (fun w => by rw [if_pos w.1] at q; omega)]; omega
      · rw [f6]
        refine (K140 f77 (by omega) f78).mono fun v h3 _ f => ?_
        obtain ⟨rfl, rfl⟩ := f
        have hw : wby h3 0 (rwl (VL h3) (gn h3)) p ≠ 0 := fun w => q (by rw [if_neg (fun x => x w)])
        have eh : hasc (h3 118) (h3 119) k ((rwl (VL h3) (gn h3)).getD p 0 - h3 97 6) ((rwl (VL h3) (gn h3)).getD p 0) (h3 89 38).toNat 0 = hcs h3 k ((rwl (VL h3) (gn h3)).getD p 0) := rfl
        have hr : hcs h3 k ((rwl (VL h3) (gn h3)).getD p 0) = 0 ∨ hcs h3 k ((rwl (VL h3) (gn h3)).getD p 0) = 1 := hasc_r _ _
        rw [eh]
        refine S36_6_45_61 _ _ _ _ _ ⟨fun q2 => ⟨by unfold R32; omega, go _ _ ?_⟩, fun q2 => ⟨by unfold R32; omega, by unfold R32; omega, go _ _ ?_⟩⟩
        · rw [er, if_neg (fun w => by omega)]; omega
        · rw [er, if_pos ⟨hw, by omega⟩]
  exact S36_6_45_0 _ (Lp (rwl (VL h) (gn h)).length 0 _ (by omega))
theorem K36_53 {h : HP} (i : Inv h) {k : Int} (hf : B_fault h 1 = -1) : Wp X 4 36 0 [vr 6, vr 53, vi k, vu, vu, vu] [] h (fun v h' => v = some (vi (blk h 1 k)) ∧ h' = h) := by
  have td : I_txt 53 1 h := by have x := i.1.2.2.2.1; first | exact x.2.1 | exact x.2.2
  have ff := td.2.2.2 hf
  have r := i.row
  have hl := r.2.1
  obtain ⟨ic0, ic1, ic2, ic3⟩ := i.1.2.2.2.2.2.1
  have f6 : h 7 6 = h 97 6 := i.1.1.1 6 (by omega) (by omega)
  have s6 := i.1.1.2.2.2.2.2.1
  have f77 : h 77 2 = (h 89 38).toNat := by rw [ic2]; omega
  have f78 : ∀ k : Nat, k < (h 89 38).toNat → h 78 k = h 118 k ∧ h 79 k = h 119 k := fun k hk => (ic3 k (by omega)).2.2.2.2
  have Lp : ∀ (f p : Nat) (z5 : aV), p + f = (rwl (VL h) (gn h)).length → Wp X 4 36 5 [vr 6, vr 53, vi k, vi (blc h 1 k p), vi p, z5] [] h (fun v h' => v = some (vi (blk h 1 k)) ∧ h' = h) := by
    intro f
    induction f with
    | zero =>
      intro p z5 hp
      have hp : p = (rwl (VL h) (gn h)).length := by omega
      subst hp
      exact S36_6_53_5 _ _ _ _ ⟨fun _ => ⟨rfl, rfl⟩, fun c => absurd c (by rw [r.1]; omega)⟩
    | succ f ih =>
      intro p z5 hp
      have br := blc_r (h := h) (t := 1) (k := k) p
      have e38 : h 38 (p : Int) = (rwl (VL h) (gn h)).getD p 0 := (r.2.2 p (by omega)).1
      have gm : (rwl (VL h) (gn h)).getD p 0 ∈ rwl (VL h) (gn h) := getD_mem (by omega)
      have gr := i.rowm.mp gm
      have t := i.tok.1
      have er : blc h 1 k (p + 1) = blc h 1 k p + (if wby h 1 (rwl (VL h) (gn h)) p ≠ 0 ∧ hcs h k ((rwl (VL h) (gn h)).getD p 0) = 1 then 1 else 0) := rfl
      refine S36_6_53_5 _ _ _ _ ⟨fun c => absurd c (by rw [r.1]; omega), fun _ => ⟨fun c => absurd c (by omega), fun _ => ⟨⟨by omega, by omega⟩, (K208_53_37 NRu_ok ff.2 r (fun _ => qsg_r) (p := p) (by omega)).mono fun v h2 _ f => ?_⟩⟩⟩
      obtain ⟨rfl, rfl⟩ := f
      have ew : bys (RTi (Wt h2 1) (mnV (VL h2)) (qsg (mq5 h2)) (rwl (VL h2) (gn h2)) p) (NRu (Wt h2 1) (h2 104 1)) = wby h2 1 (rwl (VL h2) (gn h2)) p := rfl
      rw [ew, e38]
      have go : ∀ (v : Int) (z5 : aV), v = blc h2 1 k (p + 1) → Wp X 4 36 5 [vr 6, vr 53, vi k, vi v, vi ((p : Int) + 1), z5] [] h2 (fun v h' => v = some (vi (blk h2 1 k)) ∧ h' = h2) := fun v z5 ev => by
        rw [ev]; exact ih (p + 1) z5 (by omega)
      clear ih
      refine S36_6_53_38 _ _ _ _ _ ⟨fun q => ⟨by unfold R32; omega, go _ _ ?_⟩, fun q => ⟨by rw [f6]; unfold R32; omega, ?_⟩⟩
      · rw [er, if_neg (fun w => by rw [if_pos w.1] at q; omega)]; omega
      · rw [f6]
        refine (K140 f77 (by omega) f78).mono fun v h3 _ f => ?_
        obtain ⟨rfl, rfl⟩ := f
        have hw : wby h3 1 (rwl (VL h3) (gn h3)) p ≠ 0 := fun w => q (by rw [if_neg (fun x => x w)])
        have eh : hasc (h3 118) (h3 119) k ((rwl (VL h3) (gn h3)).getD p 0 - h3 97 6) ((rwl (VL h3) (gn h3)).getD p 0) (h3 89 38).toNat 0 = hcs h3 k ((rwl (VL h3) (gn h3)).getD p 0) := rfl
        have hr : hcs h3 k ((rwl (VL h3) (gn h3)).getD p 0) = 0 ∨ hcs h3 k ((rwl (VL h3) (gn h3)).getD p 0) = 1 := hasc_r _ _
        rw [eh]
        refine S36_6_53_61 _ _ _ _ _ ⟨fun q2 => ⟨by unfold R32; omega, go _ _ ?_⟩, fun q2 => ⟨by unfold R32; omega, by unfold R32; omega, go _ _ ?_⟩⟩
        · rw [er, if_neg (fun w => by omega)]; omega
        · rw [er, if_pos ⟨hw, by omega⟩]
  exact S36_6_53_0 _ (Lp (rwl (VL h) (gn h)).length 0 _ (by omega))
theorem C22 {h : HP} (i : Inv h) (t : Int) : Wp X 5 22 0 [vr 6, vi t, vu, vu, vu, vu] [] h (fun r h1 => r = some (vi (A_blame h t)) ∧ h1 = h) := by
  have x := i.1.2.2.2.1
  have L := i.ll
  have hA : A_blame h t = if 0 ≤ t ∧ t ≤ 1 then B_blame h t else -2 := rfl
  have hB : B_blame h t = if B_fault h t = -1 ∧ 0 < qM (mq5 h) (ob (mq5 h)) then bst (blk h t) 6 0 0 (-1) else -3 := rfl
  have bad : ¬ (0 ≤ t ∧ t ≤ 1) → (some (vi (-2)) = some (vi (A_blame h t)) ∧ h = h) := fun q => ⟨by rw [hA, if_neg q], rfl⟩
  have Lp : 0 ≤ t → t ≤ 1 → B_fault h t = -1 → 0 < qM (mq5 h) (ob (mq5 h)) → ∀ (f k : Nat) (x b : Int) (z5 : aV), k + f = 6 → bst (blk h t) f k x b = bst (blk h t) 6 0 0 (-1) → Wp X 5 22 30 [vr 6, vi t, vi x, vi b, vi k, z5] [] h (fun r h1 => r = some (vi (A_blame h t)) ∧ h1 = h) := by
    intro t0 t1 hf hM f
    induction f with
    | zero =>
      intro k x b z5 hk e
      have e : b = bst (blk h t) 6 0 0 (-1) := e
      exact S22_6_30 _ _ _ _ _ ⟨fun _ => ⟨by rw [hA, if_pos ⟨t0, t1⟩, hB, if_pos ⟨hf, hM⟩, e], rfl⟩, fun c => absurd c (by omega)⟩
    | succ f ih =>
      intro k x b z5 hk e
      have er : bst (blk h t) (f + 1) k x b = if blk h t k ≤ x then bst (blk h t) f (k + 1) x b else bst (blk h t) f (k + 1) (blk h t k) k := rfl
      rw [er] at e
      have nxt : Wp X 5 22 49 [vr 6, vi t, vi x, vi b, vi k, z5] [vi (blk h t k)] h (fun r h1 => r = some (vi (A_blame h t)) ∧ h1 = h) :=
        S22_6_49 _ _ _ _ _ _ ⟨fun q => ⟨by unfold R32; omega, ih (k + 1) _ _ _ (by omega) (by rw [if_pos q] at e; exact e)⟩, fun q => ⟨by unfold R32; omega, ih (k + 1) _ _ _ (by omega) (by rw [if_neg (by omega)] at e; exact e)⟩⟩
      refine S22_6_30 _ _ _ _ _ ⟨fun c => absurd c (by omega), fun _ => ⟨⟨t0, by omega⟩, fun q => ?_, fun q => ?_⟩⟩
      · subst q
        refine (K36_45 i hf).mono fun v h2 _ f => ?_
        obtain ⟨rfl, rfl⟩ := f
        exact nxt
      · subst q
        refine (K36_53 i hf).mono fun v h2 _ f => ?_
        obtain ⟨rfl, rfl⟩ := f
        exact nxt
  have e45 : h 45 6 = B_fault h 0 := x.2.1.2.2.1
  have e53 : h 53 6 = B_fault h 1 := x.2.2.2.2.1
  refine S22_6_0 _ ⟨fun q => bad (by omega), fun t0 => ⟨fun t1 => ⟨fun tt => ?_, fun tt => ?_⟩, fun q => bad (by omega)⟩⟩
  · subst tt
    rw [e45, L.1]
    exact ⟨fun q => ⟨by rw [hA, if_pos ⟨t0, t1⟩, hB, if_neg (fun w => q w.1)], rfl⟩, fun q1 => ⟨fun q => ⟨by rw [hA, if_pos ⟨t0, t1⟩, hB, if_neg (fun w => by omega)], rfl⟩, fun q2 => Lp t0 t1 q1 q2 6 0 0 (-1) _ rfl rfl⟩⟩
  · subst tt
    rw [e53, L.1]
    exact ⟨fun q => ⟨by rw [hA, if_pos ⟨t0, t1⟩, hB, if_neg (fun w => q w.1)], rfl⟩, fun q1 => ⟨fun q => ⟨by rw [hA, if_pos ⟨t0, t1⟩, hB, if_neg (fun w => by omega)], rfl⟩, fun q2 => Lp t0 t1 q1 q2 6 0 0 (-1) _ rfl rfl⟩⟩
theorem M127 {h h1 : HP} (i : Inv h) (e : P h1 = P h) {t : Int} (ht : 0 ≤ t ∧ t < 2) : Wp X 4 127 0 [vr 89, vi t, vu, vu, vu, vu, vu, vu, vu] [] h1 (fun r h2 => r = some (vi (B_blame h t)) ∧ Fr fM h1 h2) := by
  have tk := i.tok.1
  have gl : ((gn h : Nat) : Int) = h 89 5 := by unfold gn; omega
  have hl : (rwl (VL h) (gn h)).length ≤ 20 := Nat.le_trans (rwl_len (V := VL h) (gn h)) (by omega)
  have hB : B_blame h t = if B_fault h t = -1 ∧ 0 < qM (mq5 h) (ob (mq5 h)) then bst (blk h t) 6 0 0 (-1) else -3 := rfl
  obtain ⟨ic0, ic1, ic2, ic3⟩ := i.1.2.2.2.2.2.1
  have s6 := i.1.1.2.2.2.2.2.1
  refine S127_89_0 _ ((K92 ht i.1.2.2.2.1.1 rfl rfl e).mono fun v h2 _ f => ?_)
  obtain ⟨rfl, e2, F2, ms⟩ := f
  have F2 : Fr fM h1 h2 := F2.mo fun _ _ c => fRd_M c
  have ms : B_fault h t = -1 → _ := ms
  have ef : FA (Wt h t) (h 104 t) = B_fault h t := rfl
  rw [ef]
  refine S127_89_5 _ _ ⟨fun q => ⟨by rw [hB, if_neg (fun w => q w.1)], F2⟩, fun q1 => (K78 i.tok i.sok e2).mono fun v h3 _ f => ?_⟩
  have ms := ms q1
  obtain ⟨rfl, e3, F3, vv, B⟩ := f
  have m3 : MS h3 (Wt h t) (NRu (Wt h t) (h 104 t)) := ms.1.fr F3 (by unfold fB; omega) (fun a j a1 a2 => by unfold fB; omega)
  have F := F2.tr (F3.mo fun _ _ c => fB_M c)
  clear F2 F3
  refine S127_89_13 _ _ ?_
  by_cases c : 0 < qM (mq5 h) (ob (mq5 h))
  · rw [if_pos c]
    rw [if_pos ⟨q1, c⟩] at hB
    refine ⟨fun _ => (K98 vv.2.2.1 vv.2.2.2 hl).mono fun v h4 _ f => ?_, fun q => absurd q (by decide)⟩
    obtain ⟨rfl, F4, a9⟩ := f
    have vv4 : VV h h4 := vv.fr F4 (by omega) (fun a j a1 a2 => by omega)
    have m4 := m3.fr F4 (by omega) (fun a j a1 a2 => by omega)
    have B4 : BB (mq5 h) (ob (mq5 h)) h4 := ⟨(F4 _ _ (by omega)).trans B.1, (F4 _ _ (by omega)).trans B.2.1, (F4 _ _ (by omega)).trans B.2.2.1, (F4 _ _ (by omega)).trans B.2.2.2⟩
    have e4 : P h4 = P h := (F4.toP (fun a j c => by unfold scr; omega)).trans e3
    have F := F.tr (F4.mo fun a j c => by unfold fM scr; omega)
    have lk : LKd h h4 (rwl (VL h) (gn h)) := ⟨a9, hl, fun x hx => by have := rwl_mem.mp hx; omega⟩
    have ar := vv4.2.2.1
    have f16 := vv4.2.2.2
    have f38 : h4 89 38 = h 89 38 := congrFun (congrFun e4 89) 38
    have f97 : h4 97 6 = h 97 6 := congrFun (congrFun e4 97) 6
    have f118 : ∀ i, h4 118 i = h 118 i := fun i => congrFun (congrFun e4 118) i
    have f119 : ∀ i, h4 119 i = h 119 i := fun i => congrFun (congrFun e4 119) i
    -- the causes
    have L58 : ∀ (Q : bQ) (z1 : aV) (x b x5 : Int) (k p : Nat) (f i : Nat) (x7 : Int), p < (rwl (VL h) (gn h)).length → i + f = (h 89 38).toNat → (x7 = 0 ∨ x7 = 1) → (if x7 = 0 then hasc (h 118) (h 119) k ((rwl (VL h) (gn h)).getD p 0 - h 97 6) ((rwl (VL h) (gn h)).getD p 0) f i else 1) = hcs h k ((rwl (VL h) (gn h)).getD p 0) → (∀ z7 z8 : aV, hcs h k ((rwl (VL h) (gn h)).getD p 0) = 0 → (R32 (x5 + 0)) ∧ ((R32 ((p : Int) + 1)) ∧ Wp X 4 127 43 [vr 89, z1, vi x, vi b, vi k, vi (x5 + 0), vi ((p : Int) + 1), z7, z8] [] h4 Q)) → (∀ z7 z8 : aV, hcs h k ((rwl (VL h) (gn h)).getD p 0) = 1 → Wp X 3 97 0 [vr 89, vi p, vu, vu] [] h4 (fun v h' => Wp X 4 127 148 [vr 89, z1, vi x, vi b, vi k, vi x5, vi p, z7, z8] (psh v [vi x5]) h' Q)) → Wp X 4 127 58 [vr 89, z1, vi x, vi b, vi k, vi x5, vi p, vi x7, vi i] [] h4 Q := by
      intro Q z1 x b x5 k p f
      induction f with
      | zero =>
        intro i x7 hp hi h7 eh n0 n1
        refine T127_89_58 _ _ _ _ _ _ _ _ ⟨fun _ => ⟨fun q => ?_, fun q => ?_⟩, fun q => absurd q (by omega)⟩
        · exact n0 _ _ (by rw [if_pos q] at eh; exact eh.symm)
        · exact n1 _ _ (by rw [if_neg q] at eh; exact eh.symm)
      | succ f ih =>
        intro i x7 hp hi h7 eh n0 n1
        have ep := ar p hp
        have gm : (rwl (VL h) (gn h)).getD p 0 ∈ rwl (VL h) (gn h) := getD_mem hp
        have gr := rwl_mem.mp gm
        have er : hasc (h 118) (h 119) k ((rwl (VL h) (gn h)).getD p 0 - h 97 6) ((rwl (VL h) (gn h)).getD p 0) (f + 1) i = if h 118 i = k ∧ (rwl (VL h) (gn h)).getD p 0 - h 97 6 ≤ h 119 i ∧ h 119 i ≤ (rwl (VL h) (gn h)).getD p 0 then 1 else hasc (h 118) (h 119) k ((rwl (VL h) (gn h)).getD p 0 - h 97 6) ((rwl (VL h) (gn h)).getD p 0) f (i + 1) := rfl
        refine T127_89_58 _ _ _ _ _ _ _ _ ⟨fun q => absurd q (by omega), fun _ => ⟨fun q => ⟨by unfold R32; omega, ?_⟩, fun q => ⟨⟨by omega, by omega⟩, ?_⟩⟩⟩
        · rw [if_neg q] at eh
          exact ih (i + 1) 1 hp (by omega) (.inr rfl) (by rw [if_neg (by decide)]; exact eh) n0 n1
        · rw [if_pos q, er] at eh
          rw [ep, f97, f118, f119]
          have go0 : ¬ (h 118 i = k ∧ (rwl (VL h) (gn h)).getD p 0 - h 97 6 ≤ h 119 i ∧ h 119 i ≤ (rwl (VL h) (gn h)).getD p 0) → Wp X 4 127 58 [vr 89, z1, vi x, vi b, vi k, vi x5, vi p, vi 0, vi ((i : Int) + 1)] [] h4 Q := fun w =>
            ih (i + 1) 0 hp (by omega) (.inl rfl) (by rw [if_pos rfl]; rw [if_neg w] at eh; exact eh) n0 n1
          have go1 : (h 118 i = k ∧ (rwl (VL h) (gn h)).getD p 0 - h 97 6 ≤ h 119 i ∧ h 119 i ≤ (rwl (VL h) (gn h)).getD p 0) → Wp X 4 127 58 [vr 89, z1, vi x, vi b, vi k, vi x5, vi p, vi 1, vi ((i : Int) + 1)] [] h4 Q := fun w =>
            ih (i + 1) 1 hp (by omega) (.inr rfl) (by rw [if_neg (by decide)]; rw [if_pos w] at eh; exact eh) n0 n1
          exact ⟨fun w => go0 (fun u => w u.1), fun w => ⟨⟨by omega, by omega⟩, by unfold R32; omega, fun w2 => go0 (fun u => by omega), fun w2 => ⟨fun w3 => go0 (fun u => by omega), fun w3 => go1 ⟨w, w2, w3⟩⟩⟩⟩
    -- the places
    have L43 : ∀ (k : Nat) (b x : Int), k < 6 → (∀ z1 z5 z6 z7 z8 : aV, blk h t k ≤ x → Wp X 4 127 30 [vr 89, z1, vi b, vi x, vi ((k : Int) + 1), z5, z6, z7, z8] [] h4 (fun r h2 => r = some (vi (B_blame h t)) ∧ Fr fM h1 h2)) → (∀ z1 z5 z6 z7 z8 : aV, x < blk h t k → Wp X 4 127 30 [vr 89, z1, vi k, vi (blk h t k), vi ((k : Int) + 1), z5, z6, z7, z8] [] h4 (fun r h2 => r = some (vi (B_blame h t)) ∧ Fr fM h1 h2)) → ∀ (f p : Nat) (z1 z7 z8 : aV), p + f = (rwl (VL h) (gn h)).length → Wp X 4 127 43 [vr 89, z1, vi b, vi x, vi k, vi (blc h t k p), vi p, z7, z8] [] h4 (fun r h2 => r = some (vi (B_blame h t)) ∧ Fr fM h1 h2) := by
      intro k b x hk H0 H1 f
      induction f with
      | zero =>
        intro p z1 z7 z8 hp
        have hp : p = (rwl (VL h) (gn h)).length := by omega
        subst hp
        exact S127_89_43 _ _ _ _ _ _ _ _ ⟨fun _ => ⟨fun q => ⟨by unfold R32; omega, H0 _ _ _ _ _ q⟩, fun q => ⟨by unfold R32; omega, H1 _ _ _ _ _ q⟩⟩, fun q => absurd q (by omega)⟩
      | succ f ih =>
        intro p z1 z7 z8 hp
        have br := blc_r (h := h) (t := t) (k := k) p
        have er : blc h t k (p + 1) = blc h t k p + (if wby h t (rwl (VL h) (gn h)) p ≠ 0 ∧ hcs h k ((rwl (VL h) (gn h)).getD p 0) = 1 then 1 else 0) := rfl
        have go : ∀ (v : Int) (z1 z7 z8 : aV), v = blc h t k (p + 1) → Wp X 4 127 43 [vr 89, z1, vi b, vi x, vi k, vi v, vi ((p : Int) + 1), z7, z8] [] h4 (fun r h2 => r = some (vi (B_blame h t)) ∧ Fr fM h1 h2) := fun v z1 z7 z8 ev => by
          rw [ev]; exact ih (p + 1) z1 z7 z8 (by omega)
        clear ih
        refine S127_89_43 _ _ _ _ _ _ _ _ ⟨fun q => absurd q (by omega), fun _ => L58 _ z1 b x (blc h t k p) k p (h 89 38).toNat 0 0 (by omega) (by omega) (.inl rfl) (by rw [if_pos rfl]; rfl) (fun z7 z8 q => ?_) (fun z7 z8 q => ?_)⟩
        · exact ⟨by unfold R32; omega, by unfold R32; omega, go _ _ _ _ (by rw [er, if_neg (fun w => by omega)])⟩
        · refine (K97 i.tok i.sok e4 vv4 B4 c lk m4 ms.2.1 ms.2.2 (p := p) (by omega)).mono fun v h6 _ f => ?_
          obtain ⟨rfl, rfl⟩ := f
          have ew : bys (RTi (Wt h t) (mnV (VL h)) (qsg (mq5 h)) (rwl (VL h) (gn h)) p) (NRu (Wt h t) (h 104 t)) = wby h t (rwl (VL h) (gn h)) p := rfl
          rw [ew]
          refine S127_89_148 _ _ _ _ _ _ _ _ _ _ ⟨fun q2 => ⟨by unfold R32; omega, by unfold R32; omega, go _ _ _ _ ?_⟩, fun q2 => ⟨by unfold R32; omega, by unfold R32; omega, go _ _ _ _ ?_⟩⟩
          · rw [er, if_neg (fun w => by omega)]
          · rw [er, if_pos ⟨by omega, q⟩]
    have Lk : ∀ (f k : Nat) (x b : Int) (z1 z5 z6 z7 z8 : aV), k + f = 6 → bst (blk h t) f k x b = bst (blk h t) 6 0 0 (-1) → Wp X 4 127 30 [vr 89, z1, vi b, vi x, vi k, z5, z6, z7, z8] [] h4 (fun r h2 => r = some (vi (B_blame h t)) ∧ Fr fM h1 h2) := by
      intro f
      induction f with
      | zero =>
        intro k x b z1 z5 z6 z7 z8 hk e
        have e : b = bst (blk h t) 6 0 0 (-1) := e
        exact S127_89_30 _ _ _ _ _ _ _ _ ⟨fun _ => ⟨by rw [hB, e], F⟩, fun q => absurd q (by omega)⟩
      | succ f ih =>
        intro k x b z1 z5 z6 z7 z8 hk e
        have er : bst (blk h t) (f + 1) k x b = if blk h t k ≤ x then bst (blk h t) f (k + 1) x b else bst (blk h t) f (k + 1) (blk h t k) k := rfl
        rw [er] at e
        refine S127_89_30 _ _ _ _ _ _ _ _ ⟨fun q => absurd q (by omega), fun _ => L43 k b x (by omega) (fun z1 z5 z6 z7 z8 q => ih (k + 1) _ _ _ _ _ _ _ (by omega) (by rw [if_pos q] at e; exact e)) (fun z1 z5 z6 z7 z8 q => ih (k + 1) _ _ _ _ _ _ _ (by omega) (by rw [if_neg (by omega)] at e; exact e)) (rwl (VL h) (gn h)).length 0 _ _ _ (by omega)⟩
    exact S127_89_23 _ (Lk 6 0 0 (-1) _ _ _ _ _ rfl rfl)
  · rw [if_neg c]
    exact ⟨fun q => absurd rfl q, fun _ => ⟨by rw [hB, if_neg (fun w => c w.2)], F⟩⟩
theorem a22 (t : Int) : Ag X Inv 5 22 5 128 vi [vr 6, vi t, vu, vu, vu, vu] [vr 89, vi t] := by
  refine ag_q (fun h => A_blame h t) (fun h i => (C22 i t).mono fun r h1 _ f => ⟨f.1, q_same i f.2⟩) (fun h h1 i e => ?_)
  have hA : A_blame h t = if 0 ≤ t ∧ t ≤ 1 then B_blame h t else -2 := rfl
  refine T128_89_0 _ ⟨fun q => ⟨by rw [hA, if_neg (by omega)], Fr.rf⟩, fun q1 => ⟨fun q => ⟨by rw [hA, if_neg (by omega)], Fr.rf⟩, fun q2 => (M127 i e ⟨q1, by omega⟩).mono fun v h2 _ f => ?_⟩⟩
  obtain ⟨rfl, F⟩ := f
  refine S128_89_12 _ _ _ ⟨by rw [hA, if_pos (by omega)], F⟩
end
