-- ===== told, read, set =====
def fTc (a : Nat) (j : Int) : Prop := (9 ≤ a ∧ a ≤ 12) ∨ (a = 8 ∧ j = 7)
def fTm (a : Nat) (j : Int) : Prop := (94 ≤ a ∧ a ≤ 96) ∨ (a = 89 ∧ j = 6)
theorem told_inv {h hc h2 h3 : HP} {c : Nat} {gg pp vv : Nat → Int} {time : Int} (i : Inv h) (Fc : Fr fTc h hc) (F2 : Fr fD hc h2) (d : Der (cq5 hc) h2) (F3 : Fr fTm h2 h3) (hn : h 89 6 + c ≤ 100) (ht : 0 ≤ time ∧ time ≤ 999) (hl : 0 < h 89 6 → h 96 (h 89 6 - 1) ≤ time) (hv : ∀ k : Nat, k < c → 0 ≤ gg k ∧ gg k < h 89 5 ∧ 0 ≤ pp k ∧ pp k < 5 ∧ -1 ≤ vv k ∧ vv k ≤ 999) (c87 : hc 8 7 = h 89 6 + c) (co : ∀ k : Nat, (k : Int) < h 89 6 → hc 9 k = h 9 k ∧ hc 10 k = h 10 k ∧ hc 11 k = h 11 k ∧ hc 12 k = h 12 k) (cn : ∀ k : Nat, k < c → hc 9 (h 89 6 + k) = gg k ∧ hc 10 (h 89 6 + k) = pp k ∧ hc 11 (h 89 6 + k) = vv k ∧ hc 12 (h 89 6 + k) = time) (m6 : h3 89 6 = h 89 6 + c) (mo : ∀ k : Nat, (k : Int) < h 89 6 → h3 94 k = h 94 k ∧ h3 95 k = h 95 k ∧ h3 96 k = h 96 k) (mn : ∀ k : Nat, k < c → h3 94 (h 89 6 + k) = 5 * gg k + pp k ∧ h3 95 (h 89 6 + k) = vv k ∧ h3 96 (h 89 6 + k) = time) : Inv h3 := by
  have t1 := i.tok.1
  have g8 := i.g8
  have G : Fr (fun a j => fTc a j ∨ fD a j ∨ fTm a j) h h3 := (Fc.mo fun a j c => .inl c).tr ((F2.mo fun a j c => .inr (.inl c)).tr (F3.mo fun a j c => .inr (.inr c)))
  have K : Fr (fun a j => fD a j ∨ fTm a j) hc h3 := (F2.mo fun a j c => .inl c).tr (F3.mo fun a j c => .inr c)
  have e5 : h3 89 5 = h 89 5 := G _ _ (by unfold fTc fD fTm; omega)
  have e88 : h3 8 8 = h 8 8 := G _ _ (by unfold fTc fD fTm; omega)
  have e87 : h3 8 7 = h 89 6 + c := (K _ _ (by unfold fD fTm; omega)).trans c87
  obtain ⟨⟨i1, i2, i3, i4, i5, i6, i7, i8⟩, nt⟩ := i
  obtain ⟨t0, tm, ta, t8, t7, te⟩ := i2
  have sp : ∀ k : Nat, (k : Int) < h 89 6 + c → (k : Int) < h 89 6 ∨ ∃ q : Nat, q < c ∧ (k : Int) = h 89 6 + q := by
    intro k hk
    by_cases w : (k : Int) < h 89 6
    · exact .inl w
    · exact .inr ⟨((k : Int) - h 89 6).toNat, by omega, by omega⟩
  have tms : ∀ k : Nat, (k : Int) < h 89 6 + c → 0 ≤ h3 96 k ∧ h3 96 k ≤ 999 := by
    intro k hk
    rcases sp k hk with w | ⟨q, a, e⟩
    · rw [(mo k w).2.2]; exact ta k w
    · rw [e, (mn q a).2.2]; exact ht
  have j2 : I_tel h3 := by
    refine ⟨⟨by omega, fun k hk => ?_⟩, fun k l a b => ?_, fun k hk => tms k (by omega), by omega, by omega, fun k hk => ?_⟩
    · rw [m6] at hk
      rw [e5]
      rcases sp k hk with w | ⟨q, a, e⟩
      · rw [(mo k w).1, (mo k w).2.1]; exact t0.2 k w
      · rw [e, (mn q a).1, (mn q a).2.1]
        have := hv q a
        omega
    · rw [m6] at b
      rcases sp l b with w | ⟨q, a2, e⟩
      · rw [(mo k (by omega)).2.2, (mo l w).2.2]; exact tm k l a w
      · rw [e, (mn q a2).2.2]
        rcases sp k (by omega) with w | ⟨q2, a3, e3⟩
        · rw [(mo k w).2.2]
          have h1 := hl (by omega)
          have h2 := tm k (h 89 6 - 1).toNat (by omega) (by omega)
          rw [show (((h 89 6 - 1).toNat : Nat) : Int) = h 89 6 - 1 by omega] at h2
          omega
        · rw [e3, (mn q2 a3).2.2]; omega
    · rw [m6] at hk
      rw [e5, K 9 _ (by unfold fD fTm; omega), K 10 _ (by unfold fD fTm; omega), K 11 _ (by unfold fD fTm; omega), K 12 _ (by unfold fD fTm; omega)]
      rcases sp k hk with w | ⟨q, a, e⟩
      · rw [(mo k w).1, (mo k w).2.1, (mo k w).2.2, (co k w).1, (co k w).2.1, (co k w).2.2.1, (co k w).2.2.2]; exact te k w
      · have := hv q a
        have := mn q a
        have := cn q a
        rw [e]
        omega
  have j1 := i1.fr G (fun a j c => by unfold fTc fD fTm at c; unfold rSet; omega)
  exact ⟨⟨j1, j2, der_re d F2 F3 (fun a j c => by unfold fTm at c; unfold rCq; omega) (fun a j c => by unfold fTm at c; unfold rDc; omega) j2 j1, i4.fr G (fun a j c => by unfold fTc fD fTm at c; omega), i5.fr G (fun a j c => by unfold fTc fD fTm at c; omega), i6.fr G (fun a j c => by unfold fTc fD fTm at c; unfold rC; omega), i7.fr G (fun a j c => by unfold fTc fD fTm at c; unfold rO; omega), i8.fr G (fun a j c => by unfold fTc fD fTm at c; unfold rL; omega)⟩, nt.fr2 G (fun a j c => by unfold fTc fD fTm at c; omega)⟩
/-- the class's cells behind c more tellings are well -/
theorem told_cok {h hc : HP} {c : Nat} {gg pp vv : Nat → Int} {time : Int} (i : Inv h) (Fc : Fr fTc h hc) (hn : h 89 6 + c ≤ 100) (hl : 0 < h 89 6 → h 96 (h 89 6 - 1) ≤ time) (hv : ∀ k : Nat, k < c → 0 ≤ gg k ∧ gg k < h 89 5 ∧ 0 ≤ pp k ∧ pp k < 5 ∧ -1 ≤ vv k ∧ vv k ≤ 999) (c87 : hc 8 7 = h 89 6 + c) (co : ∀ k : Nat, (k : Int) < h 89 6 → hc 9 k = h 9 k ∧ hc 10 k = h 10 k ∧ hc 11 k = h 11 k ∧ hc 12 k = h 12 k) (cn : ∀ k : Nat, k < c → hc 9 (h 89 6 + k) = gg k ∧ hc 10 (h 89 6 + k) = pp k ∧ hc 11 (h 89 6 + k) = vv k ∧ hc 12 (h 89 6 + k) = time) : Cok hc := by
  have t1 := i.tok.1
  have g8 := i.g8
  have e88 : hc 8 8 = h 89 5 := (Fc _ _ (by unfold fTc; omega)).trans g8
  have C := Cok_of i.1.2.1
  obtain ⟨t0, tm, ta, t8, t7, te⟩ := i.1.2.1
  have sp : ∀ k : Nat, (k : Int) < h 89 6 + c → (k : Int) < h 89 6 ∨ ∃ q : Nat, q < c ∧ (k : Int) = h 89 6 + q := by
    intro k hk
    by_cases w : (k : Int) < h 89 6
    · exact .inl w
    · exact .inr ⟨((k : Int) - h 89 6).toNat, by omega, by omega⟩
  refine ⟨by omega, fun k hk => ?_, fun k l a b => ?_⟩
  · rw [c87] at hk
    rw [e88]
    rcases sp k hk with w | ⟨q, a, e⟩
    · rw [(co k w).1, (co k w).2.1, (co k w).2.2.1]
      have := C.2.1 k (by omega)
      omega
    · rw [e, (cn q a).1, (cn q a).2.1, (cn q a).2.2.1]
      have := hv q a
      omega
  · rw [c87] at b
    rcases sp l b with w | ⟨q, a2, e⟩
    · rw [(co k (by omega)).2.2.2, (co l w).2.2.2]; exact C.2.2 k l a (by omega)
    · rw [e, (cn q a2).2.2.2]
      rcases sp k (by omega) with w | ⟨q2, a3, e3⟩
      · rw [(co k w).2.2.2]
        have h1 := hl (by omega)
        have h2 := tm k (h 89 6 - 1).toNat (by omega) (by omega)
        rw [show (((h 89 6 - 1).toNat : Nat) : Int) = h 89 6 - 1 by omega] at h2
        have := te k w
        omega
      · rw [e3, (cn q2 a3).2.2.2]; omega
section
variable {X : Nat × (Int → Int)}
/-- the reference tells a value -/
theorem M66 {h : HP} {Q : bQ} {g p v time : Int} (hg : 0 ≤ g ∧ g < h 89 5) (hG : h 89 5 ≤ 20) (hp : 0 ≤ p ∧ p < 5) (hv : -1 ≤ v ∧ v ≤ 999) (ht : 0 ≤ time ∧ time ≤ 999) (hn : 0 ≤ h 89 6 ∧ h 89 6 < 100) (hl : 0 < h 89 6 → h 96 (h 89 6 - 1) ≤ time) (hq : Q (some (vi (h 89 6 + 1))) (upd2 (upd2 (upd2 (upd2 h 94 (h 89 6) ((5 * g) + p)) 95 (h 89 6) v) 96 (h 89 6) time) 89 6 ((h 89 6) + 1))) : Wp X 2 66 0 [vr 89, vi g, vi p, vi v, vi time] [] h Q :=
  T66_89_0 _ _ _ _ ⟨by unfold R32; omega, fun q => absurd q (by omega), fun _ => ⟨fun q => absurd q (by omega), fun _ => ⟨fun q => absurd q (by omega), fun _ => ⟨fun q => absurd q (by omega), fun _ => ⟨fun q => absurd q (by omega), fun _ => ⟨fun q => absurd q (by omega), fun _ => ⟨fun q => absurd q (by omega), fun _ => ⟨fun q => absurd q (by omega), fun _ => ⟨fun _ => ⟨by unfold R32; omega, by unfold R32; omega, hn, hq⟩, fun q => ⟨by unfold R32; omega, ⟨by omega, by omega⟩, fun _ => ⟨fun _ => ⟨by unfold R32; omega, by unfold R32; omega, hn, hq⟩, fun q2 => absurd q2 (by omega)⟩, fun q2 => absurd (hl q) (by omega)⟩⟩⟩⟩⟩⟩⟩⟩⟩⟩
/-- the reference refuses a value -/
theorem M66b {h : HP} {Q : bQ} {g p v time : Int} (hG : 0 ≤ h 89 5 ∧ h 89 5 ≤ 20) (hn : 0 ≤ h 89 6 ∧ h 89 6 ≤ 100) (hb : ¬ (0 ≤ g ∧ g < h 89 5 ∧ 0 ≤ p ∧ p < 5 ∧ -1 ≤ v ∧ v ≤ 999 ∧ 0 ≤ time ∧ time ≤ 999 ∧ (0 < h 89 6 → h 96 (h 89 6 - 1) ≤ time))) (hq : Q (some (vi (-2))) h) : Wp X 2 66 0 [vr 89, vi g, vi p, vi v, vi time] [] h Q :=
  T66_89_0 _ _ _ _ ⟨by unfold R32; omega, fun _ => hq, fun a1 => ⟨fun _ => hq, fun a2 => ⟨fun _ => hq, fun a3 => ⟨fun _ => hq, fun a4 => ⟨fun _ => hq, fun a5 => ⟨fun _ => hq, fun a6 => ⟨fun _ => hq, fun a7 => ⟨fun _ => hq, fun a8 => ⟨fun q => absurd ⟨a1, by omega, a3, by omega, a5, a6, a7, a8, fun c => absurd c (by omega)⟩ hb, fun q => ⟨by unfold R32; omega, ⟨by omega, by omega⟩, fun c => absurd ⟨a1, by omega, a3, by omega, a5, a6, a7, a8, fun _ => c⟩ hb, fun _ => hq⟩⟩⟩⟩⟩⟩⟩⟩⟩⟩
/-- it has no room -/
theorem M66f {h : HP} {Q : bQ} {g p v time : Int} (hg : 0 ≤ g ∧ g < h 89 5) (hG : h 89 5 ≤ 20) (hp : 0 ≤ p ∧ p < 5) (hv : -1 ≤ v ∧ v ≤ 999) (ht : 0 ≤ time ∧ time ≤ 999) (hn : h 89 6 = 100) (hl : h 96 99 ≤ time) (hq : Q (some (vi (-4))) h) : Wp X 2 66 0 [vr 89, vi g, vi p, vi v, vi time] [] h Q := by
  refine T66_89_0 _ _ _ _ ?_
  rw [hn]
  exact ⟨by unfold R32; omega, fun q => absurd q (by omega), fun _ => ⟨fun q => absurd q (by omega), fun _ => ⟨fun q => absurd q (by omega), fun _ => ⟨fun q => absurd q (by omega), fun _ => ⟨fun q => absurd q (by omega), fun _ => ⟨fun q => absurd q (by omega), fun _ => ⟨fun q => absurd q (by omega), fun _ => ⟨fun q => absurd q (by omega), fun _ => ⟨fun q => absurd q (by decide), fun q => ⟨by unfold R32; omega, by decide, fun _ => ⟨fun q2 => absurd rfl q2, fun _ => hq⟩, fun q2 => absurd hl (by have q2 : time < h 96 99 := q2; omega)⟩⟩⟩⟩⟩⟩⟩⟩⟩⟩
theorem a2 (y1 y2 y3 y4 : Int) : Ag X Inv 6 2 2 66 vi [vr 6, vi y1, vi y2, vi y3, vi y4] [vr 89, vi y1, vi y2, vi y3, vi y4] := by
  intro h i
  have t := i.tok.1
  have g8 := i.g8
  have g7 : h 8 7 = h 89 6 := i.1.2.1.2.2.2.2.1
  have s := i.sok
  have st := i.1.1.1
  have te := i.1.2.1.2.2.2.2.2
  have el : ∀ k : Int, 0 ≤ k → k < h 89 6 → h 12 k = h 96 k := fun k a c => by
    have := (te k.toNat (by omega)).2.2.2.2.2.2
    rw [show ((k.toNat : Nat) : Int) = k by omega] at this
    exact this
  have bad : ¬ (0 ≤ y1 ∧ y1 < h 89 5 ∧ 0 ≤ y2 ∧ y2 < 5 ∧ -1 ≤ y3 ∧ y3 ≤ 999 ∧ 0 ≤ y4 ∧ y4 ≤ 999 ∧ (0 < h 89 6 → h 96 (h 89 6 - 1) ≤ y4)) → (fun (r : Option aV) (h1 : HP) => ∃ a : Int, r = some (vi a) ∧ Wp X 2 66 0 [vr 89, vi y1, vi y2, vi y3, vi y4] [] h1 (fun r2 h2 => r2 = some (vi a) ∧ Inv h2)) (some (vi (-2))) h := fun q => ⟨-2, rfl, M66b ⟨t.1, t.2.1⟩ t.2.2 q ⟨rfl, i⟩⟩
  have good : 0 ≤ y1 → y1 < h 89 5 → 0 ≤ y2 → y2 < 5 → -1 ≤ y3 → y3 ≤ 999 → 0 ≤ y4 → y4 ≤ 999 → (0 < h 89 6 → h 96 (h 89 6 - 1) ≤ y4) → h 89 6 < 100 → Wp X 5 32 0 [vr 6, vu] [] (upd2 (upd2 (upd2 (upd2 (upd2 h 9 (h 8 7) y1) 10 (h 8 7) y2) 11 (h 8 7) y3) 12 (h 8 7) y4) 8 7 ((h 8 7) + 1)) (fun v h' => Wp X 6 2 71 [vr 6, vi y1, vi y2, vi y3, vi y4] (psh v []) h' (fun r h1 => ∃ a : Int, r = some (vi a) ∧ Wp X 2 66 0 [vr 89, vi y1, vi y2, vi y3, vi y4] [] h1 (fun r2 h2 => r2 = some (vi a) ∧ Inv h2))) := by
    intro b1 b2 b3 b4 b5 b6 b7 b8 b9 b10
    rw [g7]
    generalize hh : upd2 (upd2 (upd2 (upd2 (upd2 h 9 (h 89 6) y1) 10 (h 89 6) y2) 11 (h 89 6) y3) 12 (h 89 6) y4) 8 7 ((h 89 6) + 1) = hc
    have Fc : Fr fTc h hc := by
      rw [← hh]
      exact ((((Fr.rf.up (.inl (by decide))).up (.inl (by decide))).up (.inl (by decide))).up (.inl (by decide))).up (.inr ⟨rfl, rfl⟩)
    have r9 : ∀ j, hc 9 j = if j = h 89 6 then y1 else h 9 j := fun j => by rw [← hh, upd2_ne (by decide), upd2_ne (by decide), upd2_ne (by decide), upd2_ne (by decide), upd2_at]
    have r10 : ∀ j, hc 10 j = if j = h 89 6 then y2 else h 10 j := fun j => by rw [← hh, upd2_ne (by decide), upd2_ne (by decide), upd2_ne (by decide), upd2_at, upd2_ne (by decide)]
    have r11 : ∀ j, hc 11 j = if j = h 89 6 then y3 else h 11 j := fun j => by rw [← hh, upd2_ne (by decide), upd2_ne (by decide), upd2_at, upd2_ne (by decide), upd2_ne (by decide)]
    have r12 : ∀ j, hc 12 j = if j = h 89 6 then y4 else h 12 j := fun j => by rw [← hh, upd2_ne (by decide), upd2_at, upd2_ne (by decide), upd2_ne (by decide), upd2_ne (by decide)]
    have c87 : hc 8 7 = h 89 6 + (1 : Nat) := by rw [← hh, upd2_s]; rfl
    have hv : ∀ k : Nat, k < 1 → 0 ≤ (fun _ : Nat => y1) k ∧ (fun _ : Nat => y1) k < h 89 5 ∧ 0 ≤ (fun _ : Nat => y2) k ∧ (fun _ : Nat => y2) k < 5 ∧ -1 ≤ (fun _ : Nat => y3) k ∧ (fun _ : Nat => y3) k ≤ 999 := fun k _ => ⟨b1, b2, b3, b4, b5, b6⟩
    have co : ∀ k : Nat, (k : Int) < h 89 6 → hc 9 k = h 9 k ∧ hc 10 k = h 10 k ∧ hc 11 k = h 11 k ∧ hc 12 k = h 12 k := fun k hk => by
      rw [r9, r10, r11, r12, if_neg (by omega), if_neg (by omega), if_neg (by omega), if_neg (by omega)]; exact ⟨rfl, rfl, rfl, rfl⟩
    have cn : ∀ k : Nat, k < 1 → hc 9 (h 89 6 + k) = (fun _ : Nat => y1) k ∧ hc 10 (h 89 6 + k) = (fun _ : Nat => y2) k ∧ hc 11 (h 89 6 + k) = (fun _ : Nat => y3) k ∧ hc 12 (h 89 6 + k) = y4 := fun k hk => by
      rw [r9, r10, r11, r12, if_pos (by omega), if_pos (by omega), if_pos (by omega), if_pos (by omega)]; exact ⟨rfl, rfl, rfl, rfl⟩
    have C := told_cok (gg := fun _ => y1) (pp := fun _ => y2) (vv := fun _ => y3) i Fc (c := 1) (by omega) b9 hv c87 co cn
    have e7 : ∀ j, hc 7 j = h 7 j := fun j => Fc _ _ (by unfold fTc; omega)
    have s0 := st 0 (by omega) (by omega)
    have s1 := st 1 (by omega) (by omega)
    have s2 := st 2 (by omega) (by omega)
    unfold Sok at s
    refine (K32 C (by rw [e7, s0]; omega) (by rw [e7, s1]; omega) (by rw [e7, s2]; omega)).mono fun v h2 _ f => ?_
    obtain ⟨rfl, F2, d⟩ := f
    have m87 : h2 8 7 = h 89 6 + 1 := (F2 _ _ (by unfold fD; omega)).trans c87
    have m5 : h2 89 5 = h 89 5 := (F2 _ _ (by unfold fD; omega)).trans (Fc _ _ (by unfold fTc; omega))
    have m6 : h2 89 6 = h 89 6 := (F2 _ _ (by unfold fD; omega)).trans (Fc _ _ (by unfold fTc; omega))
    have m96 : ∀ j, h2 96 j = h 96 j := fun j => (F2 _ _ (by unfold fD; omega)).trans (Fc _ _ (by unfold fTc; omega))
    have m94 : ∀ j, h2 94 j = h 94 j := fun j => (F2 _ _ (by unfold fD; omega)).trans (Fc _ _ (by unfold fTc; omega))
    have m95 : ∀ j, h2 95 j = h 95 j := fun j => (F2 _ _ (by unfold fD; omega)).trans (Fc _ _ (by unfold fTc; omega))
    refine S2_6_71 _ _ _ _ ⟨h2 8 7, rfl, M66 (by rw [m5]; omega) (by omega) ⟨b3, b4⟩ ⟨b5, b6⟩ ⟨b7, b8⟩ (by omega) (by rw [m6, m96]; exact b9) ⟨by rw [m87, m6], ?_⟩⟩
    rw [m6]
    refine told_inv (gg := fun _ => y1) (pp := fun _ => y2) (vv := fun _ => y3) (time := y4) (c := 1) i Fc F2 d ((((Fr.rf.up (.inl (by decide))).up (.inl (by decide))).up (.inl (by decide))).up (.inr ⟨rfl, rfl⟩)) (by omega) ⟨b7, b8⟩ b9 hv c87 co cn ?_ (fun k hk => ?_) (fun k hk => ?_)
    · rw [upd2_s]; rfl
    · rw [upd2_ne (a := 89) (b := 94) (by decide), upd2_ne (a := 89) (b := 95) (by decide), upd2_ne (a := 89) (b := 96) (by decide), upd2_ne (a := 96) (b := 94) (by decide), upd2_ne (a := 96) (b := 95) (by decide), upd2_ne (a := 95) (b := 94) (by decide), upd2_at, upd2_at, upd2_at, upd2_ne (a := 94) (b := 95) (by decide), upd2_ne (a := 95) (b := 96) (by decide), upd2_ne (a := 94) (b := 96) (by decide), if_neg (by omega), if_neg (by omega), if_neg (by omega), m94, m95, m96]
      exact ⟨rfl, rfl, rfl⟩
    · rw [upd2_ne (a := 89) (b := 94) (by decide), upd2_ne (a := 89) (b := 95) (by decide), upd2_ne (a := 89) (b := 96) (by decide), upd2_ne (a := 96) (b := 94) (by decide), upd2_ne (a := 96) (b := 95) (by decide), upd2_ne (a := 95) (b := 94) (by decide), upd2_at, upd2_at, upd2_at, if_pos (by omega), if_pos (by omega), if_pos (by omega)]
      exact ⟨rfl, rfl, rfl⟩
  refine S2_6_0 _ _ _ _ ?_
  refine ⟨fun q => bad (by omega), fun a1 => ⟨fun q => bad (by omega), fun a2 => ⟨fun q => bad (by omega), fun a3 => ⟨fun a4 => ⟨fun q => bad (by omega), fun a5 => ⟨fun a6 => ⟨fun a7 => ⟨fun q => bad (by omega), fun a8 => ⟨fun q => bad (by omega), fun a9 => ⟨⟨by omega, by omega⟩, good a1 (by omega) a3 (by omega) a5 a6 a8 a9 (fun c => absurd c (by omega)) (by omega)⟩⟩⟩, fun a7 => ⟨by unfold R32; omega, ⟨by omega, by omega⟩, ?_⟩⟩, fun q => bad (by omega)⟩⟩, fun q => bad (by omega)⟩⟩⟩⟩
  rw [g7, el _ (by omega) (by omega)]
  have l0 := (i.1.2.1.2.2.1 (h 89 6 - 1).toNat (by omega)).1
  rw [show (((h 89 6 - 1).toNat : Nat) : Int) = h 89 6 - 1 by omega] at l0
  refine ⟨fun q => bad (fun c => by have := c.2.2.2.2.2.2.2.2 (by omega); omega), fun a8 => ⟨fun q => bad (by omega), fun a9 => ⟨fun q => ?_, fun q => ?_⟩⟩⟩
  · have q : h 89 6 = 100 := by omega
    rw [q] at a8 l0
    exact ⟨-4, rfl, M66f ⟨a1, by omega⟩ t.2.1 ⟨a3, by omega⟩ ⟨a5, a6⟩ ⟨Int.le_trans l0 a8, a9⟩ q a8 ⟨rfl, i⟩⟩
  · have g := good a1 (by omega) a3 (by omega) a5 a6 (by omega) a9 (fun _ => a8) q
    rw [g7] at g
    exact g
end
