-- ===== group, told, read, set =====
theorem cqmq {h : HP} (t : I_tel h) (s : I_set h) : cq5 h = mq5 h := by
  have t1 := t.1.1
  have e : CVL h (h 7 3) = VL h := by
    funext k
    unfold CVL VL
    rw [t.2.2.2.2.1, s.1 3 (by omega) (by omega)]
    refine vlu_cg fun i hi => ?_
    have c := t.2.2.2.2.2 i (by omega)
    exact ⟨c.2.2.2.2.1, c.2.2.2.2.2.1, c.2.2.2.2.2.2⟩
  unfold cq5 mq5
  rw [e, t.2.2.2.1, s.1 0 (by omega) (by omega), s.1 1 (by omega) (by omega), s.1 2 (by omega) (by omega)]
def rCq (a : Nat) (j : Int) : Prop := a = 7 ∨ (a = 8 ∧ (j = 7 ∨ j = 8)) ∨ (9 ≤ a ∧ a ≤ 12)
theorem cq5.fr {h h' : HP} {C : Nat → Int → Prop} (F : Fr C h h') (n : ∀ a j, C a j → ¬ rCq a j) : cq5 h' = cq5 h := by
  have e9 : h' 9 = h 9 := funext fun j => F.at n (by unfold rCq; omega)
  have e10 : h' 10 = h 10 := funext fun j => F.at n (by unfold rCq; omega)
  have e11 : h' 11 = h 11 := funext fun j => F.at n (by unfold rCq; omega)
  have e12 : h' 12 = h 12 := funext fun j => F.at n (by unfold rCq; omega)
  have e7 : h' 7 = h 7 := funext fun j => F.at n (by unfold rCq; omega)
  have e87 : h' 8 7 = h 8 7 := F.at n (by unfold rCq; omega)
  have e88 : h' 8 8 = h 8 8 := F.at n (by unfold rCq; omega)
  unfold cq5 CVL
  rw [e9, e10, e11, e12, e7, e87, e88]
/-- the class's cells that reckon() makes -/
def rDc (a : Nat) (j : Int) : Prop := (a = 8 ∧ (j = 8 ∨ j = 9)) ∨ (14 ≤ a ∧ a ≤ 36) ∨ (a = 37 ∧ j = 6) ∨ (38 ≤ a ∧ a ≤ 43)
theorem der_re {hc h2 h3 : HP} {C : Nat → Int → Prop} (d : Der (cq5 hc) h2) (F1 : Fr fD hc h2) (F2 : Fr C h2 h3) (n1 : ∀ a j, C a j → ¬ rCq a j) (n2 : ∀ a j, C a j → ¬ rDc a j) (t : I_tel h3) (s : I_set h3) : I_der h3 := by
  have e : cq5 h3 = cq5 hc := (cq5.fr F2 n1).trans (cq5.fr F1 (fun a j c => by unfold fD at c; unfold rCq; omega))
  have hG : (cq5 hc).2.1 ≤ 20 := by
    rw [← e, cqmq t s]; exact t.1.1.2.1
  unfold I_der
  rw [← cqmq t s, e]
  exact ⟨(F2.at n2 (by unfold rDc; omega)).trans d.1, d.2.1.fr hG F2 (fun c => n2 _ _ c (by unfold rDc; omega)) (fun a j a1 a2 c => n2 _ _ c (by unfold rDc; omega)), d.2.2.1.fr F2 (fun j c => n2 _ _ c (by unfold rDc; omega)), d.2.2.2.fr F2 (fun c => n2 _ _ c (by unfold rDc; omega)) (fun a j a1 a2 c => n2 _ _ c (by unfold rDc; omega))⟩
theorem Cok_of {h : HP} (t : I_tel h) : Cok h := by
  have t1 := t.1.1
  obtain ⟨t0, tm, ta, e8, e7, te⟩ := t
  refine ⟨by omega, fun i hi => ?_, fun i j a c => ?_⟩
  · have := te i (by omega)
    have := t0.2 i (by omega)
    omega
  · have := te i (by omega)
    have := te j (by omega)
    have := tm i j a (by omega)
    omega
section
variable {X : Nat × (Int → Int)}
-- group
def fGr (a : Nat) (j : Int) : Prop := (14 ≤ a ∧ a ≤ 35) ∨ (a = 8 ∧ j = 8) ∨ (a = 89 ∧ j = 5)
theorem VL_z {h : HP} (T : Tok h) {k : Int} (hk : 5 * h 89 5 ≤ k) : VL h k = -1 := VL_out T hk
theorem cnp_z {V : Int → Int} {g : Int} : ∀ p : Nat, (∀ q : Nat, q < p → V (5 * g + q) = -1) → cnp V g p = 0
  | 0, _ => rfl
  | p + 1, H => by
    unfold cnp
    rw [if_pos (H p (by omega)), cnp_z p (fun q hq => H q (by omega))]
    rfl
theorem a1 : Ag X Inv 2 1 0 65 vi [vr 6] [vr 89] := by
  intro h i
  have t := i.tok.1
  have g8 := i.g8
  refine S1_6_0 ⟨fun q => S152_8_0 ⟨fun c => absurd q (by omega), fun _ => (K156 ⟨by omega, q⟩).mono fun v h1 _ f => ?_⟩, fun q => ⟨-4, rfl, S65_89_0 ⟨fun c => absurd (by omega) c, fun _ => ⟨rfl, i⟩⟩⟩⟩
  obtain ⟨rfl, F1, k1, k2, k3⟩ := f
  have e88 : h1 8 8 = h 8 8 := F1 _ _ (by omega)
  have e5 : h1 89 5 = h 89 5 := F1 _ _ (by omega)
  have S17 : ∀ {Q : bQ}, Q none (upd2 h1 8 8 ((h1 8 8) + 1)) → Wp X 1 152 17 [vr 8] [] h1 Q := by
    intro Q hq
    exact S152_8_17 ⟨by rw [e88]; unfold R32; omega, hq⟩
  refine S17 ?_
  refine S1_6_22 ?_
  rw [upd2_s, e88]
  refine ⟨by unfold R32; omega, _, rfl, S65_89_0 ?_⟩
  rw [upd2_ne (a := 8) (b := 89) (by decide), e5]
  refine ⟨fun _ => ⟨by unfold R32; omega, by unfold R32; omega, by rw [g8], ?_⟩, fun c => absurd q (by omega)⟩
  have F : Fr fGr h (upd2 (upd2 h1 8 8 (h 8 8 + 1)) 89 5 (h 89 5 + 1)) := ((F1.mo fun a j c => by unfold fGr; omega).up (.inr (.inl ⟨rfl, rfl⟩))).up (.inr (.inr ⟨rfl, rfl⟩))
  generalize hh : upd2 (upd2 h1 8 8 (h 8 8 + 1)) 89 5 (h 89 5 + 1) = h2 at F
  have f88 : h2 8 8 = h 89 5 + 1 := by rw [← hh, upd2_ne (by decide), upd2_s, g8]
  have f5 : h2 89 5 = h 89 5 + 1 := by rw [← hh, upd2_s]
  have fr : ∀ a j, 14 ≤ a → a ≤ 35 → h2 a j = h1 a j := fun a j a1 a2 => by rw [← hh, upd2_ne (by omega), upd2_ne (by omega)]
  obtain ⟨⟨i1, i2, i3, i4, i5, i6, i7, i8⟩, nt⟩ := i
  have j2 : I_tel h2 := by
    obtain ⟨t0, tm, ta, t8, t7, te⟩ := i2
    have r6 : h2 89 6 = h 89 6 := F _ _ (by unfold fGr; omega)
    refine ⟨⟨by omega, fun k hk => ?_⟩, fun k l a c => ?_, fun k hk => ?_, by omega, by rw [F 8 7 (by unfold fGr; omega), r6]; exact t7, fun k hk => ?_⟩
    · rw [r6] at hk
      rw [F 94 _ (by unfold fGr; omega), F 95 _ (by unfold fGr; omega), f5]
      have := t0.2 k hk
      omega
    · rw [r6] at c
      rw [F 96 _ (by unfold fGr; omega), F 96 _ (by unfold fGr; omega)]
      exact tm k l a c
    · rw [r6] at hk
      rw [F 96 _ (by unfold fGr; omega)]
      exact ta k hk
    · rw [r6] at hk
      rw [F 9 _ (by unfold fGr; omega), F 10 _ (by unfold fGr; omega), F 11 _ (by unfold fGr; omega), F 12 _ (by unfold fGr; omega), F 94 _ (by unfold fGr; omega), F 95 _ (by unfold fGr; omega), F 96 _ (by unfold fGr; omega), f5]
      have := te k hk
      omega
  have eV : VL h2 = VL h := by
    unfold VL
    rw [show h2 94 = h 94 from funext fun j => F 94 j (by unfold fGr; omega), show h2 95 = h 95 from funext fun j => F 95 j (by unfold fGr; omega), show h2 96 = h 96 from funext fun j => F 96 j (by unfold fGr; omega), F 97 3 (by unfold fGr; omega), F 89 6 (by unfold fGr; omega)]
  have vz : ∀ p : Int, 0 ≤ p → p < 5 → VL h (5 * h 89 5 + p) = -1 := fun p a c => VL_out i2.1 (by omega)
  have cz : cnp (VL h) (h 89 5) 5 = 0 := cnp_z 5 (fun q hq => vz q (by omega) (by omega))
  have hrw : ∀ O, inq (mq5 h2) O = inq (mq5 h) O := by
    intro O
    funext g
    unfold inq
    have e1 : (mq5 h2).1 = VL h := eV
    have e2 : (mq5 h2).2.1 = h 89 5 + 1 := f5
    have e3 : (mq5 h2).2.2.1 = h 97 0 := F 97 0 (by unfold fGr; omega)
    have e4 : (mq5 h2).2.2.2.1 = h 97 1 := F 97 1 (by unfold fGr; omega)
    rw [e1, e2, e3, e4]
    show (decide (0 ≤ g ∧ g < h 89 5 + 1 ∧ h 97 0 ≤ g ∧ g ≤ h 97 1 ∧ cnp (VL h) g 5 ≠ 0) && _) = (decide (0 ≤ g ∧ g < h 89 5 ∧ h 97 0 ≤ g ∧ g ≤ h 97 1 ∧ cnp (VL h) g 5 ≠ 0) && _)
    have : (0 ≤ g ∧ g < h 89 5 + 1 ∧ h 97 0 ≤ g ∧ g ≤ h 97 1 ∧ cnp (VL h) g 5 ≠ 0) ↔ (0 ≤ g ∧ g < h 89 5 ∧ h 97 0 ≤ g ∧ g ≤ h 97 1 ∧ cnp (VL h) g 5 ≠ 0) := by
      constructor
      · intro c
        refine ⟨c.1, ?_, c.2.2⟩
        by_cases w : g = h 89 5
        · rw [w] at c; exact absurd cz c.2.2.2.2
        · omega
      · intro c; exact ⟨c.1, by omega, c.2.2⟩
    rw [decide_eq_decide.mpr this]
  have e5r : (mq5 h2).2.2.2.2 = (mq5 h).2.2.2.2 := F 97 2 (by unfold fGr; omega)
  have eM : ∀ O, qM (mq5 h2) O = qM (mq5 h) O := fun O => by unfold qM; rw [hrw]
  have eS : ∀ O, qS (mq5 h2) O = qS (mq5 h) O := fun O => by unfold qS; rw [hrw]; show bS (VL h2) _ = bS (VL h) _; rw [eV]
  have eP : ∀ O, qP (mq5 h2) O = qP (mq5 h) O := fun O => by unfold qP; rw [hrw]; show bP (VL h2) _ = bP (VL h) _; rw [eV]
  have eF : ∀ O, fq (mq5 h2) O = fq (mq5 h) O := fun O => by
    funext g
    unfold fq
    rw [hrw, eM, eS, eP, e5r]
    show (_ && decide (zn _ _ _ _ (mnV (VL h2) g) = 3)) = (_ && decide (zn _ _ _ _ (mnV (VL h) g) = 3))
    rw [eV]
  have eD : ∀ n O, dr (mq5 h2) n O = dr (mq5 h) n O := by
    intro n
    induction n with
    | zero => intro O; rfl
    | succ n ih =>
      intro O
      have em : moreq (mq5 h2) O = moreq (mq5 h) O := by unfold moreq cq; rw [eF, eM]
      have en : nxq (mq5 h2) O = nxq (mq5 h) O := by unfold nxq; rw [eF]
      show (if moreq (mq5 h2) O then dr (mq5 h2) n (nxq (mq5 h2) O) else O) = (if moreq (mq5 h) O then dr (mq5 h) n (nxq (mq5 h) O) else O)
      rw [em, en, ih]
  have eO : ob (mq5 h2) = ob (mq5 h) := eD 20 0
  have eQ : (fun g => qst (mq5 h2) (mnV (mq5 h2).1 g)) = (fun g => qst (mq5 h) (mnV (mq5 h).1 g)) := by
    funext g
    unfold qst
    rw [eO, eM, eS, eP, e5r]
    show stn _ _ _ _ (mnV (VL h2) g) = stn _ _ _ _ (mnV (VL h) g)
    rw [eV]
  have eR : rwl (VL h2) (gn h2) = rwl (VL h) (gn h) := by
    rw [eV]
    have : gn h2 = gn h + 1 := by unfold gn; rw [f5]; omega
    rw [this]
    have eg : ((gn h : Nat) : Int) = h 89 5 := by unfold gn; omega
    show (if cnp (VL h) (gn h : Nat) 5 = 0 then rwl (VL h) (gn h) else _) = _
    rw [eg, if_pos cz]
  have j3 : I_der h2 := by
    obtain ⟨d1, d2, d3, d4⟩ := i3
    refine ⟨by rw [f88]; exact f5.symm, ?_, ?_, ?_⟩
    · show CV (VL h2) (h2 89 5) h2
      rw [eV, f5]
      refine ⟨fun g a c => ?_, ?_⟩
      · by_cases w : g = h 89 5
        · rw [w, fr _ _ (by decide) (by decide), fr _ _ (by decide) (by decide), if_pos cz]
          have k2' : h1 34 (h 89 5) = -1 := by rw [← g8]; exact k2
          have k3' : h1 35 (h 89 5) = 0 := by rw [← g8]; exact k3
          refine ⟨fun p a1 c1 => ?_, k2', ?_⟩
          · rw [fr _ _ (by omega) (by omega), vz p a1 c1, ← g8]
            exact k1 p a1 c1
          · rw [k3']; unfold spV; rw [if_pos cz]
        · have d := d2.1 g a (by show g < h 89 5; omega)
          have hne : ∀ a' j', 14 ≤ a' → a' ≤ 33 → a' ≠ 14 + Int.toNat (h 8 8) → h2 a' j' = h a' j' := fun a' j' b1 b2 b3 => by rw [fr _ _ b1 (by omega), F1 _ _ (by omega)]
          refine ⟨fun p a1 c1 => ?_, ?_, ?_⟩
          · rw [hne _ _ (by omega) (by omega) (by omega)]; exact d.1 p a1 c1
          · rw [fr _ _ (by decide) (by decide), F1 _ _ (by omega)]; exact d.2.1
          · rw [fr _ _ (by decide) (by decide), F1 _ _ (by omega)]; exact d.2.2
      · rw [F 8 9 (by unfold fGr; omega), d2.2, show (h 89 5 + 1).toNat = (h 89 5).toNat + 1 by omega]
        show su _ (h 89 5).toNat = su _ (h 89 5).toNat + cnp (VL h) ((h 89 5).toNat : Nat) 5
        rw [show (((h 89 5).toNat : Nat) : Int) = h 89 5 by omega, cz, Int.add_zero]
        rfl
    · unfold LL1
      rw [eO, eM, eS, eP, e5r]
      exact d3.fr F (fun j => by unfold fGr; omega)
    · have d4 := d4.fr F (by unfold fGr; omega) (fun a j a1 a2 => by unfold fGr; omega)
      show RowIs 37 h2 (rwl (VL h2) (gn h2)) (mnV (VL h2)) (fun g => qst (mq5 h2) (mnV (mq5 h2).1 g))
      rw [eR, eQ, eV]
      exact d4
  exact ⟨⟨i1.fr F (fun a j c => by unfold fGr at c; unfold rSet; omega), j2, j3, i4.fr F (fun a j c => by unfold fGr at c; omega), i5.fr F (fun a j c => by unfold fGr at c; omega), i6.fr F (fun a j c => by unfold fGr at c; unfold rC; omega), i7.fr F (fun a j c => by unfold fGr at c; unfold rO; omega), i8.fr F (fun a j c => by unfold fGr at c; unfold rL; omega)⟩, nt.fr2 F (fun a j c => by unfold fGr at c; omega)⟩
end
