-- ===== what of the invariant a change leaves =====
theorem Fr.at {C : Nat → Int → Prop} {h h' : HP} (F : Fr C h h') {R : Nat → Int → Prop} (n : ∀ a j, C a j → ¬ R a j) {a : Nat} {j : Int} (r : R a j) : h' a j = h a j := F a j (fun c => n a j c r)
def rSet (a : Nat) (_ : Int) : Prop := a = 7 ∨ a = 97
theorem I_set.fr {h h' : HP} {C : Nat → Int → Prop} (i : I_set h) (F : Fr C h h') (n : ∀ a j, C a j → ¬ rSet a j) : I_set h' := by
  have e7 : ∀ j, h' 7 j = h 7 j := fun j => F.at n (.inl rfl)
  have e97 : ∀ j, h' 97 j = h 97 j := fun j => F.at n (.inr rfl)
  unfold I_set Sok at i ⊢
  simp only [e7, e97]
  exact i
def rTel (a : Nat) (j : Int) : Prop := (a = 8 ∧ (j = 7 ∨ j = 8)) ∨ (9 ≤ a ∧ a ≤ 12) ∨ (94 ≤ a ∧ a ≤ 96) ∨ (a = 89 ∧ (j = 5 ∨ j = 6))
theorem I_tel.fr {h h' : HP} {C : Nat → Int → Prop} (i : I_tel h) (F : Fr C h h') (n : ∀ a j, C a j → ¬ rTel a j) : I_tel h' := by
  have e87 : h' 8 7 = h 8 7 := F.at n (by unfold rTel; omega)
  have e88 : h' 8 8 = h 8 8 := F.at n (by unfold rTel; omega)
  have e5 : h' 89 5 = h 89 5 := F.at n (by unfold rTel; omega)
  have e6 : h' 89 6 = h 89 6 := F.at n (by unfold rTel; omega)
  have e9 : ∀ j, h' 9 j = h 9 j := fun j => F.at n (by unfold rTel; omega)
  have e10 : ∀ j, h' 10 j = h 10 j := fun j => F.at n (by unfold rTel; omega)
  have e11 : ∀ j, h' 11 j = h 11 j := fun j => F.at n (by unfold rTel; omega)
  have e12 : ∀ j, h' 12 j = h 12 j := fun j => F.at n (by unfold rTel; omega)
  have e94 : ∀ j, h' 94 j = h 94 j := fun j => F.at n (by unfold rTel; omega)
  have e95 : ∀ j, h' 95 j = h 95 j := fun j => F.at n (by unfold rTel; omega)
  have e96 : ∀ j, h' 96 j = h 96 j := fun j => F.at n (by unfold rTel; omega)
  unfold I_tel Tok at i ⊢
  simp only [e87, e88, e5, e6, e9, e10, e11, e12, e94, e95, e96]
  exact i
def rDer (a : Nat) (j : Int) : Prop := (a = 8 ∧ (j = 8 ∨ j = 9)) ∨ (14 ≤ a ∧ a ≤ 36) ∨ (a = 37 ∧ j = 6) ∨ (38 ≤ a ∧ a ≤ 43) ∨ (94 ≤ a ∧ a ≤ 97) ∨ (a = 89 ∧ (j = 5 ∨ j = 6))
theorem mq5.fr {h h' : HP} {C : Nat → Int → Prop} (F : Fr C h h') (n : ∀ a j, C a j → ¬ rDer a j) : mq5 h' = mq5 h := by
  have e94 : h' 94 = h 94 := funext fun j => F.at n (by unfold rDer; omega)
  have e95 : h' 95 = h 95 := funext fun j => F.at n (by unfold rDer; omega)
  have e96 : h' 96 = h 96 := funext fun j => F.at n (by unfold rDer; omega)
  have e97 : h' 97 = h 97 := funext fun j => F.at n (by unfold rDer; omega)
  have e5 : h' 89 5 = h 89 5 := F.at n (by unfold rDer; omega)
  have e6 : h' 89 6 = h 89 6 := F.at n (by unfold rDer; omega)
  unfold mq5 VL
  rw [e94, e95, e96, e97, e5, e6]
theorem I_der.fr {h h' : HP} {C : Nat → Int → Prop} (i : I_der h) (hG : h 89 5 ≤ 20) (F : Fr C h h') (n : ∀ a j, C a j → ¬ rDer a j) : I_der h' := by
  have m := mq5.fr F n
  unfold I_der at i ⊢
  rw [m]
  exact ⟨(F.at n (by unfold rDer; omega)).trans i.1, i.2.1.fr hG F (fun c => n _ _ c (by unfold rDer; omega)) (fun a j a1 a2 c => n _ _ c (by unfold rDer; omega)), i.2.2.1.fr F (fun j c => n _ _ c (by unfold rDer; omega)), i.2.2.2.fr F (fun c => n _ _ c (by unfold rDer; omega)) (fun a j a1 a2 c => n _ _ c (by unfold rDer; omega))⟩
def rTxt (T : Nat) (t : Int) (a : Nat) (j : Int) : Prop := (T ≤ a ∧ a ≤ T + 7) ∨ (a = 103 ∧ 50 * t ≤ j ∧ j < 50 * t + 50) ∨ (a = 104 ∧ j = t)
theorem Wt_cg {h h' : HP} {t : Int} (hx : h 104 t ≤ 50) (e3 : ∀ j, 50 * t ≤ j → j < 50 * t + 50 → h' 103 j = h 103 j) (e4 : h' 104 t = h 104 t) : Wt h' t = Wt h t := by
  funext p
  unfold Wt fb
  rw [e4]
  by_cases c : 0 ≤ p ∧ p < h 104 t
  · rw [if_pos c, if_pos c]
    exact e3 _ (by omega) (by omega)
  · rw [if_neg c, if_neg c]
theorem TXd.fr {T : Nat} {h h' : HP} {w : Int → Int} {len : Int} {C : Nat → Int → Prop} (i : TXd T h w len) (F : Fr C h h') (n : ∀ a j, C a j → ¬ (T ≤ a ∧ a ≤ T + 7)) : TXd T h' w len := by
  have e : ∀ a j, T ≤ a → a ≤ T + 7 → h' a j = h a j := fun a j a1 a2 => F a j (fun c => n a j c ⟨a1, a2⟩)
  refine ⟨(e T 6 (by omega) (by omega)).trans i.1, fun f => ?_⟩
  obtain ⟨i5, i1, i2, i3, i4⟩ := i.2 f
  refine ⟨(e T 5 (by omega) (by omega)).trans i5, fun k hk => ?_, (e T 7 (by omega) (by omega)).trans i2, (e T 8 (by omega) (by omega)).trans i3, i4.fr F (fun c => n _ _ c (by omega)) (fun c => n _ _ c (by omega)) (fun a j a1 a2 c => n _ _ c (by omega))⟩
  rw [e (T + 2) _ (by omega) (by omega), e (T + 3) _ (by omega) (by omega)]
  exact i1 k hk
theorem I_txt.fr {T : Nat} {t : Int} {h h' : HP} {C : Nat → Int → Prop} (i : I_txt T t h) (hx : 0 ≤ h 104 t ∧ h 104 t ≤ 50) (F : Fr C h h') (n : ∀ a j, C a j → ¬ rTxt T t a j) : I_txt T t h' := by
  have e4 : h' 104 t = h 104 t := F.at n (by unfold rTxt; omega)
  have e3 : ∀ j, 50 * t ≤ j → j < 50 * t + 50 → h' 103 j = h 103 j := fun j a1 a2 => F.at n (by unfold rTxt; omega)
  unfold I_txt
  rw [Wt_cg hx.2 e3 e4, e4]
  refine ⟨(F.at n (by unfold rTxt; omega)).trans i.1, fun p a1 a2 => ?_, i.2.2.fr F (fun a j c r => n a j c (.inl r))⟩
  rw [e3 _ (by omega) (by omega), F.at n (a := T + 1) (j := p) (by unfold rTxt; omega)]
  exact i.2.1 p a1 a2
theorem Xok.fr {h h' : HP} {C : Nat → Int → Prop} (i : Xok h) (F : Fr C h h') (n : ∀ a j, C a j → ¬ (a = 103 ∨ a = 104)) : Xok h' := by
  have e3 : ∀ j, h' 103 j = h 103 j := fun j => F _ _ (fun c => n _ _ c (.inl rfl))
  have e4 : ∀ j, h' 104 j = h 104 j := fun j => F _ _ (fun c => n _ _ c (.inr rfl))
  unfold Xok at i ⊢
  simp only [e3, e4]
  exact i
theorem I_X.fr {h h' : HP} {C : Nat → Int → Prop} (i : I_X h) (F : Fr C h h') (n : ∀ a j, C a j → ¬ ((45 ≤ a ∧ a ≤ 60) ∨ a = 103 ∨ a = 104)) : I_X h' := by
  have x0 := i.1 0 (by omega) (by omega)
  have x1 := i.1 1 (by omega) (by omega)
  exact ⟨i.1.fr F (fun a j c r => n a j c (.inr r)), i.2.1.fr ⟨x0.1, x0.2.1⟩ F (fun a j c r => n a j c (by unfold rTxt at r; omega)), i.2.2.fr ⟨x1.1, x1.2.1⟩ F (fun a j c r => n a j c (by unfold rTxt at r; omega))⟩
def rSh (S : Nat) (s : Int) (a : Nat) (j : Int) : Prop := (a = S ∧ 1 ≤ j ∧ j ≤ 2) ∨ a = S + 1 ∨ (90 ≤ a ∧ a ≤ 91 ∧ j = s) ∨ (a = 92 ∧ 60 * s ≤ j ∧ j < 60 * s + 60)
theorem I_sh.fr {S : Nat} {s : Int} {h h' : HP} {C : Nat → Int → Prop} (i : I_sh S s h) (F : Fr C h h') (n : ∀ a j, C a j → ¬ rSh S s a j) : I_sh S s h' := by
  have e1 : h' S 1 = h S 1 := F.at n (by unfold rSh; omega)
  have e2 : h' S 2 = h S 2 := F.at n (by unfold rSh; omega)
  have e90 : h' 90 s = h 90 s := F.at n (by unfold rSh; omega)
  have e91 : h' 91 s = h 91 s := F.at n (by unfold rSh; omega)
  unfold I_sh at i ⊢
  rw [e1, e2, e90, e91]
  refine ⟨i.1, i.2.1, i.2.2.1, i.2.2.2.1, i.2.2.2.2.1, fun q => ?_⟩
  have i6 := i.2.2.2.2.2 q
  refine ⟨i6.1, fun k a1 a2 => ?_⟩
  rw [F.at n (a := S + 1) (j := k) (by unfold rSh; omega), F.at n (a := 92) (j := 60 * s + k) (by unfold rSh; omega)]
  exact i6.2 k a1 a2
theorem I_H.fr {h h' : HP} {C : Nat → Int → Prop} (i : I_H h) (F : Fr C h h') (n : ∀ a j, C a j → ¬ ((81 ≤ a ∧ a ≤ 88) ∨ (90 ≤ a ∧ a ≤ 92))) : I_H h' :=
  ⟨i.1.fr F (fun a j c r => n a j c (by unfold rSh at r; omega)), i.2.1.fr F (fun a j c r => n a j c (by unfold rSh at r; omega)), i.2.2.1.fr F (fun a j c r => n a j c (by unfold rSh at r; omega)), i.2.2.2.fr F (fun a j c r => n a j c (by unfold rSh at r; omega))⟩
def rC (a : Nat) (j : Int) : Prop := (a = 89 ∧ j = 38) ∨ (a = 77 ∧ j = 2) ∨ a = 78 ∨ a = 79 ∨ a = 118 ∨ a = 119
theorem I_C.fr {h h' : HP} {C : Nat → Int → Prop} (i : I_C h) (F : Fr C h h') (n : ∀ a j, C a j → ¬ rC a j) : I_C h' := by
  have e38 : h' 89 38 = h 89 38 := F.at n (by unfold rC; omega)
  have e77 : h' 77 2 = h 77 2 := F.at n (by unfold rC; omega)
  have e78 : ∀ j, h' 78 j = h 78 j := fun j => F.at n (by unfold rC; omega)
  have e79 : ∀ j, h' 79 j = h 79 j := fun j => F.at n (by unfold rC; omega)
  have e118 : ∀ j, h' 118 j = h 118 j := fun j => F.at n (by unfold rC; omega)
  have e119 : ∀ j, h' 119 j = h 119 j := fun j => F.at n (by unfold rC; omega)
  unfold I_C at i ⊢
  simp only [e38, e77, e78, e79, e118, e119]
  exact i
def rO (a : Nat) (_ : Int) : Prop := a = 111 ∨ a = 70
theorem I_O.fr {h h' : HP} {C : Nat → Int → Prop} (i : I_O h) (F : Fr C h h') (n : ∀ a j, C a j → ¬ rO a j) : I_O h' := by
  have e70 : ∀ j, h' 70 j = h 70 j := fun j => F.at n (.inr rfl)
  have e111 : h' 111 = h 111 := funext fun j => F.at n (.inl rfl)
  unfold I_O at i ⊢
  rw [e111]
  simp only [e70]
  exact i
def rL (a : Nat) (j : Int) : Prop := (a = 89 ∧ j = 4) ∨ (a = 6 ∧ j = 10)
theorem I_L.fr {h h' : HP} {C : Nat → Int → Prop} (i : I_L h) (F : Fr C h h') (n : ∀ a j, C a j → ¬ rL a j) : I_L h' := by
  have e4 : h' 89 4 = h 89 4 := F.at n (by unfold rL; omega)
  have e10 : h' 6 10 = h 6 10 := F.at n (by unfold rL; omega)
  unfold I_L at i ⊢
  rw [e4, e10]
  exact i
theorem NT.fr2 {h h' : HP} {C : Nat → Int → Prop} (i : NT h) (F : Fr C h h') (n : ∀ a j, C a j → a ≠ 69) : NT h' := by
  unfold NT
  rw [F 69 2 (fun c => n _ _ c rfl), F 69 3 (fun c => n _ _ c rfl)]
  exact i
-- ===== texts, causes, odds of a class =====
section
variable {X : Nat × (Int → Int)}
theorem a9 (y1 y2 : Int) : Ag X Inv 3 9 5 85 vi [vr 6, vi y1, vi y2, vu] [vr 89, vi y1, vi y2] := by
  refine ag_q (fun h => A_zone h y1 y2) (fun h i => (C9 i y1 y2).mono fun r h1 _ f => ⟨f.1, q_same i f.2⟩) (fun h h1 i e => ?_)
  have t := i.tok.1
  have g5 : h1 89 5 = h 89 5 := congrFun (congrFun e 89) 5
  have R : ∀ {r : Int}, r = A_zone h y1 y2 → (some (vi r) = some (vi (A_zone h y1 y2)) ∧ Fr fM h1 h1) := fun q => ⟨by rw [q], Fr.rf⟩
  have hA : A_zone h y1 y2 = if 0 ≤ y1 ∧ y1 < h 89 5 ∧ 0 ≤ y2 ∧ y2 ≤ 2 then B_zone h y1 y2 else -2 := rfl
  refine S85_89_0 _ _ ?_
  rw [g5]
  simp only [lcp_l, lcp_ge, lcp_g, lcp_le]
  refine ⟨by unfold R32; omega, fun q => R ?_, fun q1 => ⟨fun q => R ?_, fun q2 => ⟨fun q => R ?_, fun q3 => ⟨fun q => R ?_, fun q4 => (M84 i e ⟨q1, by omega⟩ ⟨q3, q4⟩).mono fun r h2 _ f => ?_⟩⟩⟩⟩
  · rw [hA, if_neg (by omega)]
  · rw [hA, if_neg (by omega)]
  · rw [hA, if_neg (by omega)]
  · rw [hA, if_neg (by omega)]
  · obtain ⟨rfl, F⟩ := f
    refine S85_89_26 _ _ _ _ ⟨?_, F⟩
    rw [hA, if_pos (by omega)]
-- oddsOf
def A_oddsOf (h : HP) (c : Int) : Int := if 0 ≤ c ∧ c ≤ 7 then h 111 c else -2
theorem a16 (y1 : Int) : Ag X Inv 1 16 1 109 vi [vr 6, vi y1] [vr 89, vi y1] := by
  refine ag_q (fun h => A_oddsOf h y1) (fun h i => ?_) (fun h h1 i e => ?_)
  · have hA : A_oddsOf h y1 = if 0 ≤ y1 ∧ y1 ≤ 7 then h 111 y1 else -2 := rfl
    refine S16_6_0 _ ⟨fun q => ⟨?_, rfl, i.2⟩, fun q1 => ⟨fun q2 => ⟨?_, rfl, i.2⟩, fun q2 => ⟨?_, rfl, i.2⟩⟩⟩
    · rw [hA, if_neg (by omega)]
    · rw [hA, if_pos (by omega), (i.1.2.2.2.2.2.2.1.1 y1 (by omega) (by omega)).2]
    · rw [hA, if_neg (by omega)]
  · have hA : A_oddsOf h y1 = if 0 ≤ y1 ∧ y1 ≤ 7 then h 111 y1 else -2 := rfl
    have e1 : h1 111 y1 = h 111 y1 := congrFun (congrFun e 111) y1
    refine S109_89_0 _ ?_
    rw [e1]
    simp only [lcp_l, lcp_ge, lcp_g, lcp_le]
    refine ⟨fun q => ⟨?_, Fr.rf⟩, fun q1 => ⟨fun q2 => ⟨?_, Fr.rf⟩, fun q2 => ⟨⟨by omega, by omega⟩, ?_, Fr.rf⟩⟩⟩
    · rw [hA, if_neg (by omega)]
    · rw [hA, if_neg (by omega)]
    · rw [hA, if_pos (by omega)]
-- fault
def B_fault (h : HP) (t : Int) : Int := FA (Wt h t) (h 104 t)
def A_fault (h : HP) (t : Int) : Int := if 0 ≤ t ∧ t ≤ 1 then B_fault h t else -2
theorem C12 {h : HP} (i : Inv h) (y1 : Int) : Wp X 1 12 0 [vr 6, vi y1] [] h (fun r h1 => r = some (vi (A_fault h y1)) ∧ h1 = h) := by
  have x := i.1.2.2.2.1
  have hA : A_fault h y1 = if 0 ≤ y1 ∧ y1 ≤ 1 then B_fault h y1 else -2 := rfl
  refine S12_6_0 _ ⟨fun q => ⟨?_, rfl⟩, fun q1 => ⟨fun q2 => ⟨fun q3 => ⟨?_, rfl⟩, fun q3 => ⟨?_, rfl⟩⟩, fun q2 => ⟨?_, rfl⟩⟩⟩
  · rw [hA, if_neg (by omega)]
  · rw [hA, if_pos (by omega), q3, x.2.1.2.2.1]; rfl
  · rw [hA, if_pos (by omega), q3, x.2.2.2.2.1]; rfl
  · rw [hA, if_neg (by omega)]
theorem M92 {h h1 : HP} (i : Inv h) (e : P h1 = P h) {t : Int} (ht : 0 ≤ t ∧ t < 2) : Wp X 3 92 0 [vr 89, vi t, vu] [] h1 (fun r h2 => r = some (vi (B_fault h t)) ∧ Fr fM h1 h2) :=
  (K92 ht i.1.2.2.2.1.1 rfl rfl e).mono fun r h2 _ f => ⟨f.1, f.2.2.1.mo fun _ _ c => fRd_M c⟩
theorem a12 (y1 : Int) : Ag X Inv 1 12 4 93 vi [vr 6, vi y1] [vr 89, vi y1] := by
  refine ag_q (fun h => A_fault h y1) (fun h i => (C12 i y1).mono fun r h1 _ f => ⟨f.1, q_same i f.2⟩) (fun h h1 i e => ?_)
  have hA : A_fault h y1 = if 0 ≤ y1 ∧ y1 ≤ 1 then B_fault h y1 else -2 := rfl
  refine S93_89_0 _ ?_
  simp only [lcp_l, lcp_ge, lcp_g, lcp_le]
  refine ⟨fun q => ⟨?_, Fr.rf⟩, fun q1 => ⟨fun q2 => ⟨?_, Fr.rf⟩, fun q2 => (M92 i e ⟨q1, by omega⟩).mono fun r h2 _ f => ?_⟩⟩
  · rw [hA, if_neg (by omega)]
  · rw [hA, if_neg (by omega)]
  · obtain ⟨rfl, F⟩ := f
    refine S93_89_12 _ _ _ ⟨?_, F⟩
    rw [hA, if_pos (by omega)]
-- cause
theorem a21 (y1 y2 : Int) : Ag X Inv 2 21 1 124 vi [vr 6, vi y1, vi y2] [vr 89, vi y1, vi y2] := by
  intro h i
  have c := i.1.2.2.2.2.2.1
  have c1 := c.1
  have c2 := c.2.1
  have c3 := c.2.2.1
  have bad : ¬ (0 ≤ y1 ∧ y1 ≤ 5 ∧ 0 ≤ y2 ∧ y2 ≤ 19) → (fun (r : Option aV) (h1 : HP) => ∃ a : Int, r = some (vi a) ∧ Wp X 1 124 0 [vr 89, vi y1, vi y2] [] h1 (fun r2 h2 => r2 = some (vi a) ∧ Inv h2)) (some (vi (-2))) h := by
    intro q
    refine ⟨-2, rfl, T124_89_0 _ _ ?_⟩
    exact ⟨fun _ => ⟨rfl, i⟩, fun q1 => ⟨fun _ => ⟨rfl, i⟩, fun q2 => ⟨fun _ => ⟨rfl, i⟩, fun q3 => ⟨fun _ => ⟨rfl, i⟩, fun q4 => absurd ⟨q1, q2, q3, q4⟩ q⟩⟩⟩⟩
  refine S21_6_0 _ _ ⟨fun q => bad (by omega), fun q1 => ⟨fun q2 => ⟨fun q => bad (by omega), fun q3 => ⟨fun q4 => ⟨fun q5 => ?_, fun q5 => ⟨⟨by omega, by omega⟩, ?_⟩⟩, fun q => bad (by omega)⟩⟩, fun q => bad (by omega)⟩⟩
  · refine ⟨-4, rfl, T124_89_0 _ _ ?_⟩
    exact ⟨fun q => absurd q (by omega), fun _ => ⟨fun q => absurd q (by omega), fun _ => ⟨fun q => absurd q (by omega), fun _ => ⟨fun q => absurd q (by omega), fun _ => ⟨fun q => absurd (by omega) q, fun _ => ⟨rfl, i⟩⟩⟩⟩⟩⟩
  · have F : Fr (fun a j => (a = 77 ∧ j = 2) ∨ a = 78 ∨ a = 79) h (upd2 (upd2 (upd2 h 78 (h 77 2) y1) 79 (h 77 2) y2) 77 2 ((h 77 2) + 1)) := ((Fr.rf.up (.inr (.inl rfl))).up (.inr (.inr rfl))).up (.inl ⟨rfl, rfl⟩)
    generalize hh : upd2 (upd2 (upd2 h 78 (h 77 2) y1) 79 (h 77 2) y2) 77 2 ((h 77 2) + 1) = h1 at F
    have e38 : h1 89 38 = h 89 38 := F 89 38 (by omega)
    have e77 : h1 77 2 = h 77 2 + 1 := by rw [← hh]; exact upd2_s
    have e78 : ∀ j, h1 78 j = if j = h 77 2 then y1 else h 78 j := fun j => by rw [← hh, upd2_ne (by decide), upd2_ne (by decide), upd2_at]
    have e79 : ∀ j, h1 79 j = if j = h 77 2 then y2 else h 79 j := fun j => by rw [← hh, upd2_ne (by decide), upd2_at, upd2_ne (a := 78) (b := 79) (by decide)]
    refine ⟨h 77 2 + 1, rfl, T124_89_0 _ _ ?_⟩
    rw [e38]
    refine ⟨fun q => absurd q (by omega), fun _ => ⟨fun q => absurd q (by omega), fun _ => ⟨fun q => absurd q (by omega), fun _ => ⟨fun q => absurd q (by omega), fun _ => ⟨fun _ => ⟨⟨by omega, by omega⟩, by rw [c.2.2.1], ?_⟩, fun q => absurd q (by omega)⟩⟩⟩⟩⟩
    have F2 : Fr (fun a j => (a = 77 ∧ j = 2) ∨ a = 78 ∨ a = 79 ∨ a = 118 ∨ a = 119 ∨ (a = 89 ∧ j = 38)) h (upd2 (upd2 (upd2 h1 118 (h 89 38) y1) 119 (h 89 38) y2) 89 38 ((h 89 38) + 1)) := (((F.mo fun a j c => by omega).up (by omega)).up (by omega)).up (by omega)
    obtain ⟨⟨i1, i2, i3, i4, i5, i6, i7, i8⟩, nt⟩ := i
    refine ⟨⟨i1.fr F2 (fun a j c => by unfold rSet; omega), i2.fr F2 (fun a j c => by unfold rTel; omega), i3.fr i2.1.1.2.1 F2 (fun a j c => by unfold rDer; omega), i4.fr F2 (fun a j c => by omega), i5.fr F2 (fun a j c => by omega), ?_, i7.fr F2 (fun a j c => by unfold rO; omega), i8.fr F2 (fun a j c => by unfold rL; omega)⟩, nt.fr2 F2 (fun a j c => by omega)⟩
    refine ⟨by rw [upd2_s]; omega, by rw [upd2_s]; omega, ?_, fun k hk => ?_⟩
    · rw [upd2_s, upd2_ne (by decide), upd2_ne (by decide), upd2_ne (by decide), e77, c.2.2.1]
    · rw [upd2_s] at hk
      rw [upd2_ne (a := 89) (b := 118) (by decide), upd2_ne (a := 89) (b := 119) (by decide), upd2_ne (a := 89) (b := 78) (by decide), upd2_ne (a := 89) (b := 79) (by decide), upd2_ne (a := 119) (b := 118) (by decide), upd2_ne (a := 119) (b := 78) (by decide), upd2_ne (a := 119) (b := 79) (by decide), upd2_ne (a := 118) (b := 78) (by decide), upd2_ne (a := 118) (b := 79) (by decide), upd2_at, upd2_at, upd2_ne (a := 118) (b := 119) (by decide), e78, e79, F 118 _ (by omega), F 119 _ (by omega)]
      by_cases w : (k : Int) = h 89 38
      · rw [if_pos w, if_pos w, if_pos (by omega), if_pos (by omega)]
        exact ⟨q1, q2, q3, q4, rfl, rfl⟩
      · rw [if_neg w, if_neg w, if_neg (by omega), if_neg (by omega)]
        exact c.2.2.2 k (by omega)
end
