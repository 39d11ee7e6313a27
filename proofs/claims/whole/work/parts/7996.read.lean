-- ===== findings; read; set =====
def fLt (a : Nat) (j : Int) : Prop := (a = 6 ∧ j = 10) ∨ (a = 89 ∧ j = 4)
theorem lt_inv {h h2 : HP} {f : Int} (i : Inv h) (F : Fr fLt h h2) (hf : 0 ≤ f ∧ f ≤ 5) (e1 : h2 6 10 = f) (e2 : h2 89 4 = f) : Inv h2 := by
  obtain ⟨⟨i1, i2, i3, i4, i5, i6, i7, i8⟩, nt⟩ := i
  exact ⟨⟨i1.fr F (fun a j c => by unfold fLt at c; unfold rSet; omega), i2.fr F (fun a j c => by unfold fLt at c; unfold rTel; omega), i3.fr i2.1.1.2.1 F (fun a j c => by unfold fLt at c; unfold rDer; omega), i4.fr F (fun a j c => by unfold fLt at c; omega), i5.fr F (fun a j c => by unfold fLt at c; omega), i6.fr F (fun a j c => by unfold fLt at c; unfold rC; omega), i7.fr F (fun a j c => by unfold fLt at c; unfold rO; omega), ⟨by rw [e2]; exact hf.1, by rw [e2]; exact hf.2, by rw [e1, e2]⟩⟩, nt.fr2 F (fun a j c => by unfold fLt at c; omega)⟩
/-- a finding is told on both sides -/
theorem fnd {h : HP} {f : Int} (i : Inv h) (hf : 0 ≤ f ∧ f ≤ 5) : Inv (upd2 (upd2 h 6 10 f) 89 4 f) :=
  lt_inv i ((Fr.rf.up (.inl ⟨rfl, rfl⟩)).up (.inr ⟨rfl, rfl⟩)) hf (by rw [upd2_ne (by decide), upd2_s]) upd2_s
section
variable {X : Nat × (Int → Int)}
/-- item j comes, too -/
def nst (h : HP) (s : Int) (j : Int) : Prop := j < 5 ∧ j < h 91 s ∧ h 89 6 + j < 100 ∧ -1 ≤ h 92 (60 * s + j) ∧ h 92 (60 * s + j) ≤ 999
theorem M67 {h h2 : HP} {s g time : Int} {c : Nat} {Q : bQ} (i : Inv h) (e91 : h2 91 s = h 91 s) (e92 : ∀ j, h2 92 j = h 92 j) (e5 : h2 89 5 = h 89 5) (e6 : h2 89 6 = h 89 6) (e96 : ∀ j, h2 96 j = h 96 j) (e94 : ∀ j, h2 94 j = h 94 j) (e95 : ∀ j, h2 95 j = h 95 j) (hs : 0 ≤ s ∧ s < 4) (hsz : 0 ≤ h 91 s ∧ h 91 s ≤ 60) (hg : 0 ≤ g ∧ g < h 89 5) (ht : 0 ≤ time ∧ time ≤ 999) (hl : 0 < h 89 6 → h 96 (h 89 6 - 1) ≤ time) (hc : ∀ k : Nat, k < c → nst h s k) (hc2 : ¬ nst h s c) (cont : ∀ h3, Fr fTm h2 h3 → h3 89 6 = h 89 6 + c → (∀ k : Nat, (k : Int) < h 89 6 → h3 94 k = h 94 k ∧ h3 95 k = h 95 k ∧ h3 96 k = h 96 k) → (∀ k : Nat, k < c → h3 94 (h 89 6 + k) = 5 * g + k ∧ h3 95 (h 89 6 + k) = h 92 (60 * s + k) ∧ h3 96 (h 89 6 + k) = time) → Q (some (vi (c : Int))) h3) : ∀ (k j : Nat) (hm : HP), j + k = c → Fr fTm h2 hm → hm 89 6 = h 89 6 + j → (∀ k : Nat, (k : Int) < h 89 6 → hm 94 k = h 94 k ∧ hm 95 k = h 95 k ∧ hm 96 k = h 96 k) → (∀ k : Nat, k < j → hm 94 (h 89 6 + k) = 5 * g + k ∧ hm 95 (h 89 6 + k) = h 92 (60 * s + k) ∧ hm 96 (h 89 6 + k) = time) → Wp X 3 67 51 [vr 89, vi s, vi g, vi time, vi j] [] hm Q := by
  have t := i.tok.1
  intro k
  induction k with
  | zero =>
    intro j hm hj F m6 mo mn
    have hj : j = c := by omega
    subst hj
    have f91 : hm 91 s = h 91 s := (F _ _ (by unfold fTm; omega)).trans e91
    have f92 : ∀ j, hm 92 j = h 92 j := fun j => (F _ _ (by unfold fTm; omega)).trans (e92 j)
    have f5 : hm 89 5 = h 89 5 := (F _ _ (by unfold fTm; omega)).trans e5
    have fin := cont hm F m6 mo mn
    have l96 : 0 < hm 89 6 → hm 96 (hm 89 6 - 1) ≤ time := by
      intro q
      rw [m6] at q ⊢
      by_cases w : j = 0
      · have m := (mo (h 89 6 - 1).toNat (by omega)).2.2
        rw [show (((h 89 6 - 1).toNat : Nat) : Int) = h 89 6 - 1 by omega] at m
        rw [show h 89 6 + (j : Int) - 1 = h 89 6 - 1 by omega, m]
        exact hl (by omega)
      · have m := (mn (j - 1) (by omega)).2.2
        rw [show h 89 6 + ((j - 1 : Nat) : Int) = h 89 6 + (j : Int) - 1 by omega] at m
        rw [m]; omega
    refine S67_89_51 _ _ _ _ ⟨hs, fun _ => fin, fun q => ⟨by unfold R32; omega, by omega, ?_⟩⟩
    rw [f92]
    have stop : ∀ r : Int, r < 0 → Wp X 3 67 82 [vr 89, vi s, vi g, vi time, vi (j : Int)] (psh (some (vi r)) []) hm Q := fun r hr => S67_89_82 _ _ _ _ _ ⟨fun _ => fin, fun q => absurd q (by omega)⟩
    by_cases w : (j : Int) < 5 ∧ -1 ≤ h 92 (60 * s + j) ∧ h 92 (60 * s + j) ≤ 999
    · have w6 : hm 89 6 = 100 := by
        have cj : j < j + 1 := by omega
        have : ¬ (h 89 6 + (j : Int) < 100) := fun c => hc2 ⟨w.1, by omega, c, w.2⟩
        have : h 89 6 + (j : Int) ≤ 100 := by
          by_cases z : j = 0
          · omega
          · have := hc (j - 1) (by omega)
            have := this.2.2.1
            omega
        omega
      refine M66f (by rw [f5]; omega) (by omega) ⟨by omega, w.1⟩ w.2 ht w6 ?_ (stop _ (by decide))
      have := l96 (by omega)
      rw [w6] at this
      exact this
    · exact M66b (by rw [f5]; omega) (by
        have : h 89 6 + (j : Int) ≤ 100 := by
          by_cases z : j = 0
          · omega
          · have := hc (j - 1) (by omega)
            have := this.2.2.1
            omega
        omega) (fun c => w ⟨by omega, by omega, by omega⟩) (stop _ (by decide))
  | succ k ih =>
    intro j hm hj F m6 mo mn
    have f91 : hm 91 s = h 91 s := (F _ _ (by unfold fTm; omega)).trans e91
    have f92 : ∀ j, hm 92 j = h 92 j := fun j => (F _ _ (by unfold fTm; omega)).trans (e92 j)
    have f5 : hm 89 5 = h 89 5 := (F _ _ (by unfold fTm; omega)).trans e5
    have nj := hc j (by omega)
    obtain ⟨n1, n2, n3, n4, n5⟩ := nj
    have l96 : 0 < hm 89 6 → hm 96 (hm 89 6 - 1) ≤ time := by
      intro q
      rw [m6] at q ⊢
      by_cases w : j = 0
      · have m := (mo (h 89 6 - 1).toNat (by omega)).2.2
        rw [show (((h 89 6 - 1).toNat : Nat) : Int) = h 89 6 - 1 by omega] at m
        rw [show h 89 6 + (j : Int) - 1 = h 89 6 - 1 by omega, m]
        exact hl (by omega)
      · have m := (mn (j - 1) (by omega)).2.2
        rw [show h 89 6 + ((j - 1 : Nat) : Int) = h 89 6 + (j : Int) - 1 by omega] at m
        rw [m]; omega
    refine S67_89_51 _ _ _ _ ⟨hs, fun q => absurd q (by omega), fun _ => ⟨by unfold R32; omega, by omega, ?_⟩⟩
    rw [f92]
    refine M66 (by rw [f5]; omega) (by omega) ⟨by omega, n1⟩ ⟨n4, n5⟩ ht (by omega) l96 ?_
    rw [m6]
    refine S67_89_82 _ _ _ _ _ ⟨fun q => absurd q (by omega), fun _ => ⟨by unfold R32; omega, ih (j + 1) _ (by omega) ((((F.up (.inl (by decide))).up (.inl (by decide))).up (.inl (by decide))).up (.inr ⟨rfl, rfl⟩)) (by rw [upd2_s]; omega) (fun k hk => ?_) (fun k hk => ?_)⟩⟩
    · rw [upd2_ne (a := 89) (b := 94) (by decide), upd2_ne (a := 89) (b := 95) (by decide), upd2_ne (a := 89) (b := 96) (by decide), upd2_ne (a := 96) (b := 94) (by decide), upd2_ne (a := 96) (b := 95) (by decide), upd2_ne (a := 95) (b := 94) (by decide), upd2_at, upd2_at, upd2_at, upd2_ne (a := 94) (b := 95) (by decide), upd2_ne (a := 95) (b := 96) (by decide), upd2_ne (a := 94) (b := 96) (by decide), if_neg (by omega), if_neg (by omega), if_neg (by omega)]
      exact mo k hk
    · rw [upd2_ne (a := 89) (b := 94) (by decide), upd2_ne (a := 89) (b := 95) (by decide), upd2_ne (a := 89) (b := 96) (by decide), upd2_ne (a := 96) (b := 94) (by decide), upd2_ne (a := 96) (b := 95) (by decide), upd2_ne (a := 95) (b := 94) (by decide), upd2_at, upd2_at, upd2_at]
      by_cases w : k = j
      · rw [if_pos (by omega), if_pos (by omega), if_pos (by omega), w]; exact ⟨rfl, rfl, rfl⟩
      · rw [if_neg (by omega), if_neg (by omega), if_neg (by omega), upd2_ne (a := 94) (b := 95) (by decide), upd2_ne (a := 95) (b := 96) (by decide), upd2_ne (a := 94) (b := 96) (by decide)]
        exact mn k (by omega)
theorem L3_81 {h : HP} {g time : Int} (i : Inv h) (hg : 0 ≤ g ∧ g < h 89 5) (ht : 0 ≤ time ∧ time ≤ 999) (hl : 0 < h 89 6 → h 96 (h 89 6 - 1) ≤ time) (hf : 0 ≤ h 90 0) {z1 : aV} : ∀ (k j : Nat) (hc : HP), j + k = 5 → Fr fTc h hc → hc 8 7 = h 89 6 + j → (∀ k : Nat, (k : Int) < h 89 6 → hc 9 k = h 9 k ∧ hc 10 k = h 10 k ∧ hc 11 k = h 11 k ∧ hc 12 k = h 12 k) → (∀ k : Nat, k < j → hc 9 (h 89 6 + k) = g ∧ hc 10 (h 89 6 + k) = k ∧ hc 11 (h 89 6 + k) = h 92 (60 * 0 + k) ∧ hc 12 (h 89 6 + k) = time) → (∀ k : Nat, k < j → nst h 0 k) → Wp X 6 3 59 [vr 6, z1, vi g, vi time, vr 81, vi j] [] hc (fun r h1 => ∃ a : Int, r = some (vi a) ∧ Wp X 3 67 0 [vr 89, vi 0, vi g, vi time, vu] [] h1 (fun r2 h2 => r2 = some (vi a) ∧ Inv h2)) := by
  have t := i.tok.1
  have s := i.sok
  have sn := i.1.1.1
  have s0 := sn 0 (by omega) (by omega)
  have s1 := sn 1 (by omega) (by omega)
  have s2 := sn 2 (by omega) (by omega)
  unfold Sok at s
  have g8 := i.g8
  have sh : I_sh 81 0 h := by
    have a := i.1.2.2.2.2.1
    first | exact a.1 | exact a.2.1 | exact a.2.2.1 | exact a.2.2.2
  have h4 := sh.2.2.2.1
  have h5 := sh.2.2.2.2.1
  obtain ⟨h2s, hit⟩ := sh.2.2.2.2.2 hf
  have fin : ∀ (c : Nat) (hc : HP), c ≤ 5 → h 89 6 + c ≤ 100 → Fr fTc h hc → hc 8 7 = h 89 6 + c → (∀ k : Nat, (k : Int) < h 89 6 → hc 9 k = h 9 k ∧ hc 10 k = h 10 k ∧ hc 11 k = h 11 k ∧ hc 12 k = h 12 k) → (∀ k : Nat, k < c → hc 9 (h 89 6 + k) = g ∧ hc 10 (h 89 6 + k) = k ∧ hc 11 (h 89 6 + k) = h 92 (60 * 0 + k) ∧ hc 12 (h 89 6 + k) = time) → (∀ k : Nat, k < c → nst h 0 k) → ¬ nst h 0 c → Wp X 5 32 0 [vr 6, vu] [] hc (fun v h' => Wp X 6 3 126 [vr 6, z1, vi g, vi time, vr 81, vi (c : Int)] (psh v []) h' (fun r h1 => ∃ a : Int, r = some (vi a) ∧ Wp X 3 67 0 [vr 89, vi 0, vi g, vi time, vu] [] h1 (fun r2 h2 => r2 = some (vi a) ∧ Inv h2))) := by
    intro c hc hc5 hc100 Fc c87 co cn ns nse
    have hv : ∀ k : Nat, k < c → 0 ≤ (fun _ : Nat => g) k ∧ (fun _ : Nat => g) k < h 89 5 ∧ 0 ≤ (fun k : Nat => (k : Int)) k ∧ (fun k : Nat => (k : Int)) k < 5 ∧ -1 ≤ (fun k : Nat => h 92 (60 * 0 + k)) k ∧ (fun k : Nat => h 92 (60 * 0 + k)) k ≤ 999 := fun k hk => ⟨hg.1, hg.2, by show 0 ≤ (k : Int); omega, by show (k : Int) < 5; omega, (ns k hk).2.2.2.1, (ns k hk).2.2.2.2⟩
    have C := told_cok (gg := fun _ => g) (pp := fun k => (k : Int)) (vv := fun k => h 92 (60 * 0 + k)) i Fc (c := c) hc100 hl hv c87 co cn
    have e7 : ∀ j, hc 7 j = h 7 j := fun j => Fc _ _ (by unfold fTc; omega)
    refine (K32 C (by rw [e7, s0]; omega) (by rw [e7, s1]; omega) (by rw [e7, s2]; omega)).mono fun v h2 _ f => ?_
    obtain ⟨rfl, F2, d⟩ := f
    have G : Fr (fun a j => fTc a j ∨ fD a j) h h2 := (Fc.mo fun a j c => .inl c).tr (F2.mo fun a j c => .inr c)
    refine S3_6_126 _ _ _ _ _ _ ⟨(c : Int), rfl, ?_⟩
    have e5 : h2 89 5 = h 89 5 := G _ _ (by unfold fTc fD; omega)
    have e6 : h2 89 6 = h 89 6 := G _ _ (by unfold fTc fD; omega)
    have e96 : ∀ j, h2 96 j = h 96 j := fun j => G _ _ (by unfold fTc fD; omega)
    have e90 : h2 90 0 = h 90 0 := G _ _ (by unfold fTc fD; omega)
    have loop : Wp X 3 67 51 [vr 89, vi 0, vi g, vi time, vi 0] [] h2 (fun r2 h2 => r2 = some (vi (c : Int)) ∧ Inv h2) :=
      M67 (c := c) i (G _ _ (by unfold fTc fD; omega)) (fun j => G _ _ (by unfold fTc fD; omega)) e5 e6 e96 (fun j => G _ _ (by unfold fTc fD; omega)) (fun j => G _ _ (by unfold fTc fD; omega)) (by omega) ⟨h4, h5⟩ hg ht hl ns nse (fun h3 F3 m6 mo mn => ⟨rfl, told_inv (gg := fun _ => g) (pp := fun k => (k : Int)) (vv := fun k => h 92 (60 * 0 + k)) (time := time) (c := c) i Fc F2 d F3 hc100 ht hl hv c87 co cn m6 mo mn⟩) c 0 h2 (by omega) Fr.rf (by rw [e6]; omega) (fun k hk => ⟨G _ _ (by unfold fTc fD; omega), G _ _ (by unfold fTc fD; omega), G _ _ (by unfold fTc fD; omega)⟩) (fun k hk => absurd hk (Nat.not_lt_zero k))
    refine T67_89_0 _ _ _ ?_
    rw [e5, e6, e90]
    refine ⟨fun q => absurd q (by omega), fun _ => ⟨fun q => absurd q (by omega), fun _ => ⟨by unfold R32; omega, fun q => absurd q (by omega), fun _ => ⟨fun q => absurd q (by omega), fun _ => ⟨fun q => absurd q (by omega), fun _ => ⟨fun q => absurd q (by omega), fun _ => ⟨fun q => ⟨by omega, fun _ => loop, fun q => absurd q (by omega)⟩, fun q => ⟨by unfold R32; omega, by omega, fun _ => ⟨by omega, fun _ => loop, fun q => absurd q (by omega)⟩, fun q2 => absurd (hl q) (by rw [e96] at q2; omega)⟩⟩⟩⟩⟩⟩⟩⟩
  intro k
  induction k with
  | zero =>
    intro j hc hj F c87 co cn ns
    have hj : j = 5 := by omega
    subst hj
    have := (ns 4 (by omega)).2.2.1
    exact S3_6_59a z1 _ _ _ ⟨fun _ => fin 5 hc (by omega) (by omega) F c87 co cn ns (fun c => absurd c.1 (by omega)), fun q => absurd q (by decide)⟩
  | succ k ih =>
    intro j hc hj F c87 co cn ns
    have f2 : hc 81 2 = h 91 0 := (F _ _ (by unfold fTc; omega)).trans h2s
    have f88 : hc 8 8 = h 89 5 := (F _ _ (by unfold fTc; omega)).trans g8
    have n100 : h 89 6 + (j : Int) ≤ 100 := by
      by_cases z : j = 0
      · omega
      · have := (ns (j - 1) (by omega)).2.2.1
        omega
    refine S3_6_59a z1 _ _ _ ⟨fun q => absurd q (by omega), fun _ => ?_⟩
    rw [f2, c87]
    refine ⟨fun q => fin j hc (by omega) n100 F c87 co cn ns (fun c => absurd c.2.1 (by omega)), fun q1 => ⟨fun q => fin j hc (by omega) n100 F c87 co cn ns (fun c => absurd c.2.2.1 (by omega)), fun q2 => ⟨fun q => absurd q (by omega), fun _ => ⟨by unfold R32; omega, fun q => absurd q (by omega), fun _ => ?_⟩⟩⟩⟩
    have fi : hc 82 (j : Int) = h 92 (60 * 0 + j) := (F _ _ (by unfold fTc; omega)).trans (hit j (by omega) q1).1
    rw [fi, f88]
    refine ⟨fun q => fin j hc (by omega) n100 F c87 co cn ns (fun c => absurd c.2.2.2.1 (by omega)), fun q3 => ⟨fun q4 => ⟨fun q => absurd q (by omega), fun _ => ⟨fun q => absurd q (by omega), fun _ => ⟨by omega, ?_⟩⟩⟩, fun q => fin j hc (by omega) n100 F c87 co cn ns (fun c => absurd c.2.2.2.2 (by omega))⟩⟩
    have r9 : ∀ x, (upd2 (upd2 (upd2 (upd2 (upd2 hc 9 (h 89 6 + j) g) 10 (h 89 6 + j) j) 11 (h 89 6 + j) (h 92 (60 * 0 + j))) 12 (h 89 6 + j) time) 8 7 (h 89 6 + j + 1)) 9 x = if x = h 89 6 + j then g else hc 9 x := fun x => by rw [upd2_ne (by decide), upd2_ne (by decide), upd2_ne (by decide), upd2_ne (by decide), upd2_at]
    have r10 : ∀ x, (upd2 (upd2 (upd2 (upd2 (upd2 hc 9 (h 89 6 + j) g) 10 (h 89 6 + j) j) 11 (h 89 6 + j) (h 92 (60 * 0 + j))) 12 (h 89 6 + j) time) 8 7 (h 89 6 + j + 1)) 10 x = if x = h 89 6 + j then (j : Int) else hc 10 x := fun x => by rw [upd2_ne (by decide), upd2_ne (by decide), upd2_ne (by decide), upd2_at, upd2_ne (by decide)]
    have r11 : ∀ x, (upd2 (upd2 (upd2 (upd2 (upd2 hc 9 (h 89 6 + j) g) 10 (h 89 6 + j) j) 11 (h 89 6 + j) (h 92 (60 * 0 + j))) 12 (h 89 6 + j) time) 8 7 (h 89 6 + j + 1)) 11 x = if x = h 89 6 + j then h 92 (60 * 0 + j) else hc 11 x := fun x => by rw [upd2_ne (by decide), upd2_ne (by decide), upd2_at, upd2_ne (by decide), upd2_ne (by decide)]
    have r12 : ∀ x, (upd2 (upd2 (upd2 (upd2 (upd2 hc 9 (h 89 6 + j) g) 10 (h 89 6 + j) j) 11 (h 89 6 + j) (h 92 (60 * 0 + j))) 12 (h 89 6 + j) time) 8 7 (h 89 6 + j + 1)) 12 x = if x = h 89 6 + j then time else hc 12 x := fun x => by rw [upd2_ne (by decide), upd2_at, upd2_ne (by decide), upd2_ne (by decide), upd2_ne (by decide)]
    refine ih (j + 1) _ (by omega) (((((F.up (.inl (by decide))).up (.inl (by decide))).up (.inl (by decide))).up (.inl (by decide))).up (.inr ⟨rfl, rfl⟩)) (by rw [upd2_s]; omega) (fun k hk => ?_) (fun k hk => ?_) (fun k hk => ?_)
    · rw [r9, r10, r11, r12, if_neg (by omega), if_neg (by omega), if_neg (by omega), if_neg (by omega)]; exact co k hk
    · rw [r9, r10, r11, r12]
      by_cases w : k = j
      · rw [if_pos (by omega), if_pos (by omega), if_pos (by omega), if_pos (by omega), w]; exact ⟨rfl, rfl, rfl, rfl⟩
      · rw [if_neg (by omega), if_neg (by omega), if_neg (by omega), if_neg (by omega)]; exact cn k (by omega)
    · by_cases w : k = j
      · rw [w]; exact ⟨by omega, q1, by omega, q3, q4⟩
      · exact ns k (by omega)
theorem L3_83 {h : HP} {g time : Int} (i : Inv h) (hg : 0 ≤ g ∧ g < h 89 5) (ht : 0 ≤ time ∧ time ≤ 999) (hl : 0 < h 89 6 → h 96 (h 89 6 - 1) ≤ time) (hf : 0 ≤ h 90 1) {z1 : aV} : ∀ (k j : Nat) (hc : HP), j + k = 5 → Fr fTc h hc → hc 8 7 = h 89 6 + j → (∀ k : Nat, (k : Int) < h 89 6 → hc 9 k = h 9 k ∧ hc 10 k = h 10 k ∧ hc 11 k = h 11 k ∧ hc 12 k = h 12 k) → (∀ k : Nat, k < j → hc 9 (h 89 6 + k) = g ∧ hc 10 (h 89 6 + k) = k ∧ hc 11 (h 89 6 + k) = h 92 (60 * 1 + k) ∧ hc 12 (h 89 6 + k) = time) → (∀ k : Nat, k < j → nst h 1 k) → Wp X 6 3 59 [vr 6, z1, vi g, vi time, vr 83, vi j] [] hc (fun r h1 => ∃ a : Int, r = some (vi a) ∧ Wp X 3 67 0 [vr 89, vi 1, vi g, vi time, vu] [] h1 (fun r2 h2 => r2 = some (vi a) ∧ Inv h2)) := by
  have t := i.tok.1
  have s := i.sok
  have sn := i.1.1.1
  have s0 := sn 0 (by omega) (by omega)
  have s1 := sn 1 (by omega) (by omega)
  have s2 := sn 2 (by omega) (by omega)
  unfold Sok at s
  have g8 := i.g8
  have sh : I_sh 83 1 h := by
    have a := i.1.2.2.2.2.1
    first | exact a.1 | exact a.2.1 | exact a.2.2.1 | exact a.2.2.2
  have h4 := sh.2.2.2.1
  have h5 := sh.2.2.2.2.1
  obtain ⟨h2s, hit⟩ := sh.2.2.2.2.2 hf
  have fin : ∀ (c : Nat) (hc : HP), c ≤ 5 → h 89 6 + c ≤ 100 → Fr fTc h hc → hc 8 7 = h 89 6 + c → (∀ k : Nat, (k : Int) < h 89 6 → hc 9 k = h 9 k ∧ hc 10 k = h 10 k ∧ hc 11 k = h 11 k ∧ hc 12 k = h 12 k) → (∀ k : Nat, k < c → hc 9 (h 89 6 + k) = g ∧ hc 10 (h 89 6 + k) = k ∧ hc 11 (h 89 6 + k) = h 92 (60 * 1 + k) ∧ hc 12 (h 89 6 + k) = time) → (∀ k : Nat, k < c → nst h 1 k) → ¬ nst h 1 c → Wp X 5 32 0 [vr 6, vu] [] hc (fun v h' => Wp X 6 3 126 [vr 6, z1, vi g, vi time, vr 83, vi (c : Int)] (psh v []) h' (fun r h1 => ∃ a : Int, r = some (vi a) ∧ Wp X 3 67 0 [vr 89, vi 1, vi g, vi time, vu] [] h1 (fun r2 h2 => r2 = some (vi a) ∧ Inv h2))) := by
    intro c hc hc5 hc100 Fc c87 co cn ns nse
    have hv : ∀ k : Nat, k < c → 0 ≤ (fun _ : Nat => g) k ∧ (fun _ : Nat => g) k < h 89 5 ∧ 0 ≤ (fun k : Nat => (k : Int)) k ∧ (fun k : Nat => (k : Int)) k < 5 ∧ -1 ≤ (fun k : Nat => h 92 (60 * 1 + k)) k ∧ (fun k : Nat => h 92 (60 * 1 + k)) k ≤ 999 := fun k hk => ⟨hg.1, hg.2, by show 0 ≤ (k : Int); omega, by show (k : Int) < 5; omega, (ns k hk).2.2.2.1, (ns k hk).2.2.2.2⟩
    have C := told_cok (gg := fun _ => g) (pp := fun k => (k : Int)) (vv := fun k => h 92 (60 * 1 + k)) i Fc (c := c) hc100 hl hv c87 co cn
    have e7 : ∀ j, hc 7 j = h 7 j := fun j => Fc _ _ (by unfold fTc; omega)
    refine (K32 C (by rw [e7, s0]; omega) (by rw [e7, s1]; omega) (by rw [e7, s2]; omega)).mono fun v h2 _ f => ?_
    obtain ⟨rfl, F2, d⟩ := f
    have G : Fr (fun a j => fTc a j ∨ fD a j) h h2 := (Fc.mo fun a j c => .inl c).tr (F2.mo fun a j c => .inr c)
    refine S3_6_126 _ _ _ _ _ _ ⟨(c : Int), rfl, ?_⟩
    have e5 : h2 89 5 = h 89 5 := G _ _ (by unfold fTc fD; omega)
    have e6 : h2 89 6 = h 89 6 := G _ _ (by unfold fTc fD; omega)
    have e96 : ∀ j, h2 96 j = h 96 j := fun j => G _ _ (by unfold fTc fD; omega)
    have e90 : h2 90 1 = h 90 1 := G _ _ (by unfold fTc fD; omega)
    have loop : Wp X 3 67 51 [vr 89, vi 1, vi g, vi time, vi 0] [] h2 (fun r2 h2 => r2 = some (vi (c : Int)) ∧ Inv h2) :=
      M67 (c := c) i (G _ _ (by unfold fTc fD; omega)) (fun j => G _ _ (by unfold fTc fD; omega)) e5 e6 e96 (fun j => G _ _ (by unfold fTc fD; omega)) (fun j => G _ _ (by unfold fTc fD; omega)) (by omega) ⟨h4, h5⟩ hg ht hl ns nse (fun h3 F3 m6 mo mn => ⟨rfl, told_inv (gg := fun _ => g) (pp := fun k => (k : Int)) (vv := fun k => h 92 (60 * 1 + k)) (time := time) (c := c) i Fc F2 d F3 hc100 ht hl hv c87 co cn m6 mo mn⟩) c 0 h2 (by omega) Fr.rf (by rw [e6]; omega) (fun k hk => ⟨G _ _ (by unfold fTc fD; omega), G _ _ (by unfold fTc fD; omega), G _ _ (by unfold fTc fD; omega)⟩) (fun k hk => absurd hk (Nat.not_lt_zero k))
    refine T67_89_0 _ _ _ ?_
    rw [e5, e6, e90]
    refine ⟨fun q => absurd q (by omega), fun _ => ⟨fun q => absurd q (by omega), fun _ => ⟨by unfold R32; omega, fun q => absurd q (by omega), fun _ => ⟨fun q => absurd q (by omega), fun _ => ⟨fun q => absurd q (by omega), fun _ => ⟨fun q => absurd q (by omega), fun _ => ⟨fun q => ⟨by omega, fun _ => loop, fun q => absurd q (by omega)⟩, fun q => ⟨by unfold R32; omega, by omega, fun _ => ⟨by omega, fun _ => loop, fun q => absurd q (by omega)⟩, fun q2 => absurd (hl q) (by rw [e96] at q2; omega)⟩⟩⟩⟩⟩⟩⟩⟩
  intro k
  induction k with
  | zero =>
    intro j hc hj F c87 co cn ns
    have hj : j = 5 := by omega
    subst hj
    have := (ns 4 (by omega)).2.2.1
    exact S3_6_59b z1 _ _ _ ⟨fun _ => fin 5 hc (by omega) (by omega) F c87 co cn ns (fun c => absurd c.1 (by omega)), fun q => absurd q (by decide)⟩
  | succ k ih =>
    intro j hc hj F c87 co cn ns
    have f2 : hc 83 2 = h 91 1 := (F _ _ (by unfold fTc; omega)).trans h2s
    have f88 : hc 8 8 = h 89 5 := (F _ _ (by unfold fTc; omega)).trans g8
    have n100 : h 89 6 + (j : Int) ≤ 100 := by
      by_cases z : j = 0
      · omega
      · have := (ns (j - 1) (by omega)).2.2.1
        omega
    refine S3_6_59b z1 _ _ _ ⟨fun q => absurd q (by omega), fun _ => ?_⟩
    rw [f2, c87]
    refine ⟨fun q => fin j hc (by omega) n100 F c87 co cn ns (fun c => absurd c.2.1 (by omega)), fun q1 => ⟨fun q => fin j hc (by omega) n100 F c87 co cn ns (fun c => absurd c.2.2.1 (by omega)), fun q2 => ⟨fun q => absurd q (by omega), fun _ => ⟨by unfold R32; omega, fun q => absurd q (by omega), fun _ => ?_⟩⟩⟩⟩
    have fi : hc 84 (j : Int) = h 92 (60 * 1 + j) := (F _ _ (by unfold fTc; omega)).trans (hit j (by omega) q1).1
    rw [fi, f88]
    refine ⟨fun q => fin j hc (by omega) n100 F c87 co cn ns (fun c => absurd c.2.2.2.1 (by omega)), fun q3 => ⟨fun q4 => ⟨fun q => absurd q (by omega), fun _ => ⟨fun q => absurd q (by omega), fun _ => ⟨by omega, ?_⟩⟩⟩, fun q => fin j hc (by omega) n100 F c87 co cn ns (fun c => absurd c.2.2.2.2 (by omega))⟩⟩
    have r9 : ∀ x, (upd2 (upd2 (upd2 (upd2 (upd2 hc 9 (h 89 6 + j) g) 10 (h 89 6 + j) j) 11 (h 89 6 + j) (h 92 (60 * 1 + j))) 12 (h 89 6 + j) time) 8 7 (h 89 6 + j + 1)) 9 x = if x = h 89 6 + j then g else hc 9 x := fun x => by rw [upd2_ne (by decide), upd2_ne (by decide), upd2_ne (by decide), upd2_ne (by decide), upd2_at]
    have r10 : ∀ x, (upd2 (upd2 (upd2 (upd2 (upd2 hc 9 (h 89 6 + j) g) 10 (h 89 6 + j) j) 11 (h 89 6 + j) (h 92 (60 * 1 + j))) 12 (h 89 6 + j) time) 8 7 (h 89 6 + j + 1)) 10 x = if x = h 89 6 + j then (j : Int) else hc 10 x := fun x => by rw [upd2_ne (by decide), upd2_ne (by decide), upd2_ne (by decide), upd2_at, upd2_ne (by decide)]
    have r11 : ∀ x, (upd2 (upd2 (upd2 (upd2 (upd2 hc 9 (h 89 6 + j) g) 10 (h 89 6 + j) j) 11 (h 89 6 + j) (h 92 (60 * 1 + j))) 12 (h 89 6 + j) time) 8 7 (h 89 6 + j + 1)) 11 x = if x = h 89 6 + j then h 92 (60 * 1 + j) else hc 11 x := fun x => by rw [upd2_ne (by decide), upd2_ne (by decide), upd2_at, upd2_ne (by decide), upd2_ne (by decide)]
    have r12 : ∀ x, (upd2 (upd2 (upd2 (upd2 (upd2 hc 9 (h 89 6 + j) g) 10 (h 89 6 + j) j) 11 (h 89 6 + j) (h 92 (60 * 1 + j))) 12 (h 89 6 + j) time) 8 7 (h 89 6 + j + 1)) 12 x = if x = h 89 6 + j then time else hc 12 x := fun x => by rw [upd2_ne (by decide), upd2_at, upd2_ne (by decide), upd2_ne (by decide), upd2_ne (by decide)]
    refine ih (j + 1) _ (by omega) (((((F.up (.inl (by decide))).up (.inl (by decide))).up (.inl (by decide))).up (.inl (by decide))).up (.inr ⟨rfl, rfl⟩)) (by rw [upd2_s]; omega) (fun k hk => ?_) (fun k hk => ?_) (fun k hk => ?_)
    · rw [r9, r10, r11, r12, if_neg (by omega), if_neg (by omega), if_neg (by omega), if_neg (by omega)]; exact co k hk
    · rw [r9, r10, r11, r12]
      by_cases w : k = j
      · rw [if_pos (by omega), if_pos (by omega), if_pos (by omega), if_pos (by omega), w]; exact ⟨rfl, rfl, rfl, rfl⟩
      · rw [if_neg (by omega), if_neg (by omega), if_neg (by omega), if_neg (by omega)]; exact cn k (by omega)
    · by_cases w : k = j
      · rw [w]; exact ⟨by omega, q1, by omega, q3, q4⟩
      · exact ns k (by omega)
theorem L3_85 {h : HP} {g time : Int} (i : Inv h) (hg : 0 ≤ g ∧ g < h 89 5) (ht : 0 ≤ time ∧ time ≤ 999) (hl : 0 < h 89 6 → h 96 (h 89 6 - 1) ≤ time) (hf : 0 ≤ h 90 2) {z1 : aV} : ∀ (k j : Nat) (hc : HP), j + k = 5 → Fr fTc h hc → hc 8 7 = h 89 6 + j → (∀ k : Nat, (k : Int) < h 89 6 → hc 9 k = h 9 k ∧ hc 10 k = h 10 k ∧ hc 11 k = h 11 k ∧ hc 12 k = h 12 k) → (∀ k : Nat, k < j → hc 9 (h 89 6 + k) = g ∧ hc 10 (h 89 6 + k) = k ∧ hc 11 (h 89 6 + k) = h 92 (60 * 2 + k) ∧ hc 12 (h 89 6 + k) = time) → (∀ k : Nat, k < j → nst h 2 k) → Wp X 6 3 59 [vr 6, z1, vi g, vi time, vr 85, vi j] [] hc (fun r h1 => ∃ a : Int, r = some (vi a) ∧ Wp X 3 67 0 [vr 89, vi 2, vi g, vi time, vu] [] h1 (fun r2 h2 => r2 = some (vi a) ∧ Inv h2)) := by
  have t := i.tok.1
  have s := i.sok
  have sn := i.1.1.1
  have s0 := sn 0 (by omega) (by omega)
  have s1 := sn 1 (by omega) (by omega)
  have s2 := sn 2 (by omega) (by omega)
  unfold Sok at s
  have g8 := i.g8
  have sh : I_sh 85 2 h := by
    have a := i.1.2.2.2.2.1
    first | exact a.1 | exact a.2.1 | exact a.2.2.1 | exact a.2.2.2
  have h4 := sh.2.2.2.1
  have h5 := sh.2.2.2.2.1
  obtain ⟨h2s, hit⟩ := sh.2.2.2.2.2 hf
  have fin : ∀ (c : Nat) (hc : HP), c ≤ 5 → h 89 6 + c ≤ 100 → Fr fTc h hc → hc 8 7 = h 89 6 + c → (∀ k : Nat, (k : Int) < h 89 6 → hc 9 k = h 9 k ∧ hc 10 k = h 10 k ∧ hc 11 k = h 11 k ∧ hc 12 k = h 12 k) → (∀ k : Nat, k < c → hc 9 (h 89 6 + k) = g ∧ hc 10 (h 89 6 + k) = k ∧ hc 11 (h 89 6 + k) = h 92 (60 * 2 + k) ∧ hc 12 (h 89 6 + k) = time) → (∀ k : Nat, k < c → nst h 2 k) → ¬ nst h 2 c → Wp X 5 32 0 [vr 6, vu] [] hc (fun v h' => Wp X 6 3 126 [vr 6, z1, vi g, vi time, vr 85, vi (c : Int)] (psh v []) h' (fun r h1 => ∃ a : Int, r = some (vi a) ∧ Wp X 3 67 0 [vr 89, vi 2, vi g, vi time, vu] [] h1 (fun r2 h2 => r2 = some (vi a) ∧ Inv h2))) := by
    intro c hc hc5 hc100 Fc c87 co cn ns nse
    have hv : ∀ k : Nat, k < c → 0 ≤ (fun _ : Nat => g) k ∧ (fun _ : Nat => g) k < h 89 5 ∧ 0 ≤ (fun k : Nat => (k : Int)) k ∧ (fun k : Nat => (k : Int)) k < 5 ∧ -1 ≤ (fun k : Nat => h 92 (60 * 2 + k)) k ∧ (fun k : Nat => h 92 (60 * 2 + k)) k ≤ 999 := fun k hk => ⟨hg.1, hg.2, by show 0 ≤ (k : Int); omega, by show (k : Int) < 5; omega, (ns k hk).2.2.2.1, (ns k hk).2.2.2.2⟩
    have C := told_cok (gg := fun _ => g) (pp := fun k => (k : Int)) (vv := fun k => h 92 (60 * 2 + k)) i Fc (c := c) hc100 hl hv c87 co cn
    have e7 : ∀ j, hc 7 j = h 7 j := fun j => Fc _ _ (by unfold fTc; omega)
    refine (K32 C (by rw [e7, s0]; omega) (by rw [e7, s1]; omega) (by rw [e7, s2]; omega)).mono fun v h2 _ f => ?_
    obtain ⟨rfl, F2, d⟩ := f
    have G : Fr (fun a j => fTc a j ∨ fD a j) h h2 := (Fc.mo fun a j c => .inl c).tr (F2.mo fun a j c => .inr c)
    refine S3_6_126 _ _ _ _ _ _ ⟨(c : Int), rfl, ?_⟩
    have e5 : h2 89 5 = h 89 5 := G _ _ (by unfold fTc fD; omega)
    have e6 : h2 89 6 = h 89 6 := G _ _ (by unfold fTc fD; omega)
    have e96 : ∀ j, h2 96 j = h 96 j := fun j => G _ _ (by unfold fTc fD; omega)
    have e90 : h2 90 2 = h 90 2 := G _ _ (by unfold fTc fD; omega)
    have loop : Wp X 3 67 51 [vr 89, vi 2, vi g, vi time, vi 0] [] h2 (fun r2 h2 => r2 = some (vi (c : Int)) ∧ Inv h2) :=
      M67 (c := c) i (G _ _ (by unfold fTc fD; omega)) (fun j => G _ _ (by unfold fTc fD; omega)) e5 e6 e96 (fun j => G _ _ (by unfold fTc fD; omega)) (fun j => G _ _ (by unfold fTc fD; omega)) (by omega) ⟨h4, h5⟩ hg ht hl ns nse (fun h3 F3 m6 mo mn => ⟨rfl, told_inv (gg := fun _ => g) (pp := fun k => (k : Int)) (vv := fun k => h 92 (60 * 2 + k)) (time := time) (c := c) i Fc F2 d F3 hc100 ht hl hv c87 co cn m6 mo mn⟩) c 0 h2 (by omega) Fr.rf (by rw [e6]; omega) (fun k hk => ⟨G _ _ (by unfold fTc fD; omega), G _ _ (by unfold fTc fD; omega), G _ _ (by unfold fTc fD; omega)⟩) (fun k hk => absurd hk (Nat.not_lt_zero k))
    refine T67_89_0 _ _ _ ?_
    rw [e5, e6, e90]
    refine ⟨fun q => absurd q (by omega), fun _ => ⟨fun q => absurd q (by omega), fun _ => ⟨by unfold R32; omega, fun q => absurd q (by omega), fun _ => ⟨fun q => absurd q (by omega), fun _ => ⟨fun q => absurd q (by omega), fun _ => ⟨fun q => absurd q (by omega), fun _ => ⟨fun q => ⟨by omega, fun _ => loop, fun q => absurd q (by omega)⟩, fun q => ⟨by unfold R32; omega, by omega, fun _ => ⟨by omega, fun _ => loop, fun q => absurd q (by omega)⟩, fun q2 => absurd (hl q) (by rw [e96] at q2; omega)⟩⟩⟩⟩⟩⟩⟩⟩
  intro k
  induction k with
  | zero =>
    intro j hc hj F c87 co cn ns
    have hj : j = 5 := by omega
    subst hj
    have := (ns 4 (by omega)).2.2.1
    exact S3_6_59c z1 _ _ _ ⟨fun _ => fin 5 hc (by omega) (by omega) F c87 co cn ns (fun c => absurd c.1 (by omega)), fun q => absurd q (by decide)⟩
  | succ k ih =>
    intro j hc hj F c87 co cn ns
    have f2 : hc 85 2 = h 91 2 := (F _ _ (by unfold fTc; omega)).trans h2s
    have f88 : hc 8 8 = h 89 5 := (F _ _ (by unfold fTc; omega)).trans g8
    have n100 : h 89 6 + (j : Int) ≤ 100 := by
      by_cases z : j = 0
      · omega
      · have := (ns (j - 1) (by omega)).2.2.1
        omega
    refine S3_6_59c z1 _ _ _ ⟨fun q => absurd q (by omega), fun _ => ?_⟩
    rw [f2, c87]
    refine ⟨fun q => fin j hc (by omega) n100 F c87 co cn ns (fun c => absurd c.2.1 (by omega)), fun q1 => ⟨fun q => fin j hc (by omega) n100 F c87 co cn ns (fun c => absurd c.2.2.1 (by omega)), fun q2 => ⟨fun q => absurd q (by omega), fun _ => ⟨by unfold R32; omega, fun q => absurd q (by omega), fun _ => ?_⟩⟩⟩⟩
    have fi : hc 86 (j : Int) = h 92 (60 * 2 + j) := (F _ _ (by unfold fTc; omega)).trans (hit j (by omega) q1).1
    rw [fi, f88]
    refine ⟨fun q => fin j hc (by omega) n100 F c87 co cn ns (fun c => absurd c.2.2.2.1 (by omega)), fun q3 => ⟨fun q4 => ⟨fun q => absurd q (by omega), fun _ => ⟨fun q => absurd q (by omega), fun _ => ⟨by omega, ?_⟩⟩⟩, fun q => fin j hc (by omega) n100 F c87 co cn ns (fun c => absurd c.2.2.2.2 (by omega))⟩⟩
    have r9 : ∀ x, (upd2 (upd2 (upd2 (upd2 (upd2 hc 9 (h 89 6 + j) g) 10 (h 89 6 + j) j) 11 (h 89 6 + j) (h 92 (60 * 2 + j))) 12 (h 89 6 + j) time) 8 7 (h 89 6 + j + 1)) 9 x = if x = h 89 6 + j then g else hc 9 x := fun x => by rw [upd2_ne (by decide), upd2_ne (by decide), upd2_ne (by decide), upd2_ne (by decide), upd2_at]
    have r10 : ∀ x, (upd2 (upd2 (upd2 (upd2 (upd2 hc 9 (h 89 6 + j) g) 10 (h 89 6 + j) j) 11 (h 89 6 + j) (h 92 (60 * 2 + j))) 12 (h 89 6 + j) time) 8 7 (h 89 6 + j + 1)) 10 x = if x = h 89 6 + j then (j : Int) else hc 10 x := fun x => by rw [upd2_ne (by decide), upd2_ne (by decide), upd2_ne (by decide), upd2_at, upd2_ne (by decide)]
    have r11 : ∀ x, (upd2 (upd2 (upd2 (upd2 (upd2 hc 9 (h 89 6 + j) g) 10 (h 89 6 + j) j) 11 (h 89 6 + j) (h 92 (60 * 2 + j))) 12 (h 89 6 + j) time) 8 7 (h 89 6 + j + 1)) 11 x = if x = h 89 6 + j then h 92 (60 * 2 + j) else hc 11 x := fun x => by rw [upd2_ne (by decide), upd2_ne (by decide), upd2_at, upd2_ne (by decide), upd2_ne (by decide)]
    have r12 : ∀ x, (upd2 (upd2 (upd2 (upd2 (upd2 hc 9 (h 89 6 + j) g) 10 (h 89 6 + j) j) 11 (h 89 6 + j) (h 92 (60 * 2 + j))) 12 (h 89 6 + j) time) 8 7 (h 89 6 + j + 1)) 12 x = if x = h 89 6 + j then time else hc 12 x := fun x => by rw [upd2_ne (by decide), upd2_at, upd2_ne (by decide), upd2_ne (by decide), upd2_ne (by decide)]
    refine ih (j + 1) _ (by omega) (((((F.up (.inl (by decide))).up (.inl (by decide))).up (.inl (by decide))).up (.inl (by decide))).up (.inr ⟨rfl, rfl⟩)) (by rw [upd2_s]; omega) (fun k hk => ?_) (fun k hk => ?_) (fun k hk => ?_)
    · rw [r9, r10, r11, r12, if_neg (by omega), if_neg (by omega), if_neg (by omega), if_neg (by omega)]; exact co k hk
    · rw [r9, r10, r11, r12]
      by_cases w : k = j
      · rw [if_pos (by omega), if_pos (by omega), if_pos (by omega), if_pos (by omega), w]; exact ⟨rfl, rfl, rfl, rfl⟩
      · rw [if_neg (by omega), if_neg (by omega), if_neg (by omega), if_neg (by omega)]; exact cn k (by omega)
    · by_cases w : k = j
      · rw [w]; exact ⟨by omega, q1, by omega, q3, q4⟩
      · exact ns k (by omega)
theorem L3_87 {h : HP} {g time : Int} (i : Inv h) (hg : 0 ≤ g ∧ g < h 89 5) (ht : 0 ≤ time ∧ time ≤ 999) (hl : 0 < h 89 6 → h 96 (h 89 6 - 1) ≤ time) (hf : 0 ≤ h 90 3) {z1 : aV} : ∀ (k j : Nat) (hc : HP), j + k = 5 → Fr fTc h hc → hc 8 7 = h 89 6 + j → (∀ k : Nat, (k : Int) < h 89 6 → hc 9 k = h 9 k ∧ hc 10 k = h 10 k ∧ hc 11 k = h 11 k ∧ hc 12 k = h 12 k) → (∀ k : Nat, k < j → hc 9 (h 89 6 + k) = g ∧ hc 10 (h 89 6 + k) = k ∧ hc 11 (h 89 6 + k) = h 92 (60 * 3 + k) ∧ hc 12 (h 89 6 + k) = time) → (∀ k : Nat, k < j → nst h 3 k) → Wp X 6 3 59 [vr 6, z1, vi g, vi time, vr 87, vi j] [] hc (fun r h1 => ∃ a : Int, r = some (vi a) ∧ Wp X 3 67 0 [vr 89, vi 3, vi g, vi time, vu] [] h1 (fun r2 h2 => r2 = some (vi a) ∧ Inv h2)) := by
  have t := i.tok.1
  have s := i.sok
  have sn := i.1.1.1
  have s0 := sn 0 (by omega) (by omega)
  have s1 := sn 1 (by omega) (by omega)
  have s2 := sn 2 (by omega) (by omega)
  unfold Sok at s
  have g8 := i.g8
  have sh : I_sh 87 3 h := by
    have a := i.1.2.2.2.2.1
    first | exact a.1 | exact a.2.1 | exact a.2.2.1 | exact a.2.2.2
  have h4 := sh.2.2.2.1
  have h5 := sh.2.2.2.2.1
  obtain ⟨h2s, hit⟩ := sh.2.2.2.2.2 hf
  have fin : ∀ (c : Nat) (hc : HP), c ≤ 5 → h 89 6 + c ≤ 100 → Fr fTc h hc → hc 8 7 = h 89 6 + c → (∀ k : Nat, (k : Int) < h 89 6 → hc 9 k = h 9 k ∧ hc 10 k = h 10 k ∧ hc 11 k = h 11 k ∧ hc 12 k = h 12 k) → (∀ k : Nat, k < c → hc 9 (h 89 6 + k) = g ∧ hc 10 (h 89 6 + k) = k ∧ hc 11 (h 89 6 + k) = h 92 (60 * 3 + k) ∧ hc 12 (h 89 6 + k) = time) → (∀ k : Nat, k < c → nst h 3 k) → ¬ nst h 3 c → Wp X 5 32 0 [vr 6, vu] [] hc (fun v h' => Wp X 6 3 126 [vr 6, z1, vi g, vi time, vr 87, vi (c : Int)] (psh v []) h' (fun r h1 => ∃ a : Int, r = some (vi a) ∧ Wp X 3 67 0 [vr 89, vi 3, vi g, vi time, vu] [] h1 (fun r2 h2 => r2 = some (vi a) ∧ Inv h2))) := by
    intro c hc hc5 hc100 Fc c87 co cn ns nse
    have hv : ∀ k : Nat, k < c → 0 ≤ (fun _ : Nat => g) k ∧ (fun _ : Nat => g) k < h 89 5 ∧ 0 ≤ (fun k : Nat => (k : Int)) k ∧ (fun k : Nat => (k : Int)) k < 5 ∧ -1 ≤ (fun k : Nat => h 92 (60 * 3 + k)) k ∧ (fun k : Nat => h 92 (60 * 3 + k)) k ≤ 999 := fun k hk => ⟨hg.1, hg.2, by show 0 ≤ (k : Int); omega, by show (k : Int) < 5; omega, (ns k hk).2.2.2.1, (ns k hk).2.2.2.2⟩
    have C := told_cok (gg := fun _ => g) (pp := fun k => (k : Int)) (vv := fun k => h 92 (60 * 3 + k)) i Fc (c := c) hc100 hl hv c87 co cn
    have e7 : ∀ j, hc 7 j = h 7 j := fun j => Fc _ _ (by unfold fTc; omega)
    refine (K32 C (by rw [e7, s0]; omega) (by rw [e7, s1]; omega) (by rw [e7, s2]; omega)).mono fun v h2 _ f => ?_
    obtain ⟨rfl, F2, d⟩ := f
    have G : Fr (fun a j => fTc a j ∨ fD a j) h h2 := (Fc.mo fun a j c => .inl c).tr (F2.mo fun a j c => .inr c)
    refine S3_6_126 _ _ _ _ _ _ ⟨(c : Int), rfl, ?_⟩
    have e5 : h2 89 5 = h 89 5 := G _ _ (by unfold fTc fD; omega)
    have e6 : h2 89 6 = h 89 6 := G _ _ (by unfold fTc fD; omega)
    have e96 : ∀ j, h2 96 j = h 96 j := fun j => G _ _ (by unfold fTc fD; omega)
    have e90 : h2 90 3 = h 90 3 := G _ _ (by unfold fTc fD; omega)
    have loop : Wp X 3 67 51 [vr 89, vi 3, vi g, vi time, vi 0] [] h2 (fun r2 h2 => r2 = some (vi (c : Int)) ∧ Inv h2) :=
      M67 (c := c) i (G _ _ (by unfold fTc fD; omega)) (fun j => G _ _ (by unfold fTc fD; omega)) e5 e6 e96 (fun j => G _ _ (by unfold fTc fD; omega)) (fun j => G _ _ (by unfold fTc fD; omega)) (by omega) ⟨h4, h5⟩ hg ht hl ns nse (fun h3 F3 m6 mo mn => ⟨rfl, told_inv (gg := fun _ => g) (pp := fun k => (k : Int)) (vv := fun k => h 92 (60 * 3 + k)) (time := time) (c := c) i Fc F2 d F3 hc100 ht hl hv c87 co cn m6 mo mn⟩) c 0 h2 (by omega) Fr.rf (by rw [e6]; omega) (fun k hk => ⟨G _ _ (by unfold fTc fD; omega), G _ _ (by unfold fTc fD; omega), G _ _ (by unfold fTc fD; omega)⟩) (fun k hk => absurd hk (Nat.not_lt_zero k))
    refine T67_89_0 _ _ _ ?_
    rw [e5, e6, e90]
    refine ⟨fun q => absurd q (by omega), fun _ => ⟨fun q => absurd q (by omega), fun _ => ⟨by unfold R32; omega, fun q => absurd q (by omega), fun _ => ⟨fun q => absurd q (by omega), fun _ => ⟨fun q => absurd q (by omega), fun _ => ⟨fun q => absurd q (by omega), fun _ => ⟨fun q => ⟨by omega, fun _ => loop, fun q => absurd q (by omega)⟩, fun q => ⟨by unfold R32; omega, by omega, fun _ => ⟨by omega, fun _ => loop, fun q => absurd q (by omega)⟩, fun q2 => absurd (hl q) (by rw [e96] at q2; omega)⟩⟩⟩⟩⟩⟩⟩⟩
  intro k
  induction k with
  | zero =>
    intro j hc hj F c87 co cn ns
    have hj : j = 5 := by omega
    subst hj
    have := (ns 4 (by omega)).2.2.1
    exact S3_6_59d z1 _ _ _ ⟨fun _ => fin 5 hc (by omega) (by omega) F c87 co cn ns (fun c => absurd c.1 (by omega)), fun q => absurd q (by decide)⟩
  | succ k ih =>
    intro j hc hj F c87 co cn ns
    have f2 : hc 87 2 = h 91 3 := (F _ _ (by unfold fTc; omega)).trans h2s
    have f88 : hc 8 8 = h 89 5 := (F _ _ (by unfold fTc; omega)).trans g8
    have n100 : h 89 6 + (j : Int) ≤ 100 := by
      by_cases z : j = 0
      · omega
      · have := (ns (j - 1) (by omega)).2.2.1
        omega
    refine S3_6_59d z1 _ _ _ ⟨fun q => absurd q (by omega), fun _ => ?_⟩
    rw [f2, c87]
    refine ⟨fun q => fin j hc (by omega) n100 F c87 co cn ns (fun c => absurd c.2.1 (by omega)), fun q1 => ⟨fun q => fin j hc (by omega) n100 F c87 co cn ns (fun c => absurd c.2.2.1 (by omega)), fun q2 => ⟨fun q => absurd q (by omega), fun _ => ⟨by unfold R32; omega, fun q => absurd q (by omega), fun _ => ?_⟩⟩⟩⟩
    have fi : hc 88 (j : Int) = h 92 (60 * 3 + j) := (F _ _ (by unfold fTc; omega)).trans (hit j (by omega) q1).1
    rw [fi, f88]
    refine ⟨fun q => fin j hc (by omega) n100 F c87 co cn ns (fun c => absurd c.2.2.2.1 (by omega)), fun q3 => ⟨fun q4 => ⟨fun q => absurd q (by omega), fun _ => ⟨fun q => absurd q (by omega), fun _ => ⟨by omega, ?_⟩⟩⟩, fun q => fin j hc (by omega) n100 F c87 co cn ns (fun c => absurd c.2.2.2.2 (by omega))⟩⟩
    have r9 : ∀ x, (upd2 (upd2 (upd2 (upd2 (upd2 hc 9 (h 89 6 + j) g) 10 (h 89 6 + j) j) 11 (h 89 6 + j) (h 92 (60 * 3 + j))) 12 (h 89 6 + j) time) 8 7 (h 89 6 + j + 1)) 9 x = if x = h 89 6 + j then g else hc 9 x := fun x => by rw [upd2_ne (by decide), upd2_ne (by decide), upd2_ne (by decide), upd2_ne (by decide), upd2_at]
    have r10 : ∀ x, (upd2 (upd2 (upd2 (upd2 (upd2 hc 9 (h 89 6 + j) g) 10 (h 89 6 + j) j) 11 (h 89 6 + j) (h 92 (60 * 3 + j))) 12 (h 89 6 + j) time) 8 7 (h 89 6 + j + 1)) 10 x = if x = h 89 6 + j then (j : Int) else hc 10 x := fun x => by rw [upd2_ne (by decide), upd2_ne (by decide), upd2_ne (by decide), upd2_at, upd2_ne (by decide)]
    have r11 : ∀ x, (upd2 (upd2 (upd2 (upd2 (upd2 hc 9 (h 89 6 + j) g) 10 (h 89 6 + j) j) 11 (h 89 6 + j) (h 92 (60 * 3 + j))) 12 (h 89 6 + j) time) 8 7 (h 89 6 + j + 1)) 11 x = if x = h 89 6 + j then h 92 (60 * 3 + j) else hc 11 x := fun x => by rw [upd2_ne (by decide), upd2_ne (by decide), upd2_at, upd2_ne (by decide), upd2_ne (by decide)]
    have r12 : ∀ x, (upd2 (upd2 (upd2 (upd2 (upd2 hc 9 (h 89 6 + j) g) 10 (h 89 6 + j) j) 11 (h 89 6 + j) (h 92 (60 * 3 + j))) 12 (h 89 6 + j) time) 8 7 (h 89 6 + j + 1)) 12 x = if x = h 89 6 + j then time else hc 12 x := fun x => by rw [upd2_ne (by decide), upd2_at, upd2_ne (by decide), upd2_ne (by decide), upd2_ne (by decide)]
    refine ih (j + 1) _ (by omega) (((((F.up (.inl (by decide))).up (.inl (by decide))).up (.inl (by decide))).up (.inl (by decide))).up (.inr ⟨rfl, rfl⟩)) (by rw [upd2_s]; omega) (fun k hk => ?_) (fun k hk => ?_) (fun k hk => ?_)
    · rw [r9, r10, r11, r12, if_neg (by omega), if_neg (by omega), if_neg (by omega), if_neg (by omega)]; exact co k hk
    · rw [r9, r10, r11, r12]
      by_cases w : k = j
      · rw [if_pos (by omega), if_pos (by omega), if_pos (by omega), if_pos (by omega), w]; exact ⟨rfl, rfl, rfl, rfl⟩
      · rw [if_neg (by omega), if_neg (by omega), if_neg (by omega), if_neg (by omega)]; exact cn k (by omega)
    · by_cases w : k = j
      · rw [w]; exact ⟨by omega, q1, by omega, q3, q4⟩
      · exact ns k (by omega)
theorem a3 (y1 y2 y3 : Int) : Ag X Inv 6 3 3 67 vi [vr 6, vi y1, vi y2, vi y3, vu, vu] [vr 89, vi y1, vi y2, vi y3, vu] := by
  intro h i
  have t := i.tok.1
  have g8 := i.g8
  have g7 : h 8 7 = h 89 6 := i.1.2.1.2.2.2.2.1
  have te := i.1.2.1.2.2.2.2.2
  have hh := i.1.2.2.2.2.1
  have el : ∀ k : Int, 0 ≤ k → k < h 89 6 → h 12 k = h 96 k := fun k a c => by
    have := (te k.toNat (by omega)).2.2.2.2.2.2
    rw [show ((k.toNat : Nat) : Int) = k by omega] at this
    exact this
  have bad : ¬ (0 ≤ y1 ∧ y1 ≤ 3 ∧ 0 ≤ y2 ∧ y2 < h 89 5 ∧ 0 ≤ y3 ∧ y3 ≤ 999 ∧ (0 < h 89 6 → h 96 (h 89 6 - 1) ≤ y3)) → (fun (r : Option aV) (h1 : HP) => ∃ a : Int, r = some (vi a) ∧ Wp X 3 67 0 [vr 89, vi y1, vi y2, vi y3, vu] [] h1 (fun r2 h2 => r2 = some (vi a) ∧ Inv h2)) (some (vi (-2))) h := fun hb => ⟨-2, rfl, T67_89_0 _ _ _ ⟨fun _ => ⟨rfl, i⟩, fun a1 => ⟨fun _ => ⟨rfl, i⟩, fun a2 => ⟨by unfold R32; omega, fun _ => ⟨rfl, i⟩, fun a3 => ⟨fun _ => ⟨rfl, i⟩, fun a4 => ⟨fun _ => ⟨rfl, i⟩, fun a5 => ⟨fun _ => ⟨rfl, i⟩, fun a6 => ⟨fun q => absurd ⟨a1, a2, a3, by omega, a5, a6, fun c => absurd c (by omega)⟩ hb, fun q => ⟨by unfold R32; omega, ⟨by omega, by omega⟩, fun c => absurd ⟨a1, a2, a3, by omega, a5, a6, fun _ => c⟩ hb, fun _ => ⟨rfl, i⟩⟩⟩⟩⟩⟩⟩⟩⟩⟩
  have null : 0 ≤ y1 → y1 ≤ 3 → 0 ≤ y2 → y2 < h 89 5 → 0 ≤ y3 → y3 ≤ 999 → (0 < h 89 6 → h 96 (h 89 6 - 1) ≤ y3) → h 90 y1 < 0 → (fun (r : Option aV) (h1 : HP) => ∃ a : Int, r = some (vi a) ∧ Wp X 3 67 0 [vr 89, vi y1, vi y2, vi y3, vu] [] h1 (fun r2 h2 => r2 = some (vi a) ∧ Inv h2)) (some (vi (-11))) (upd2 h 6 10 1) := by
    intro a1 a2 a3 a4 a5 a6 a7 a8
    refine ⟨-11, rfl, T67_89_0 _ _ _ ?_⟩
    rw [upd2_ne (a := 6) (b := 89) (by decide), upd2_ne (a := 6) (b := 96) (by decide), upd2_ne (a := 6) (b := 90) (by decide)]
    exact ⟨fun q => absurd q (by omega), fun _ => ⟨fun q => absurd q (by omega), fun _ => ⟨by unfold R32; omega, fun q => absurd q (by omega), fun _ => ⟨fun q => absurd q (by omega), fun _ => ⟨fun q => absurd q (by omega), fun _ => ⟨fun q => absurd q (by omega), fun _ => ⟨fun q => ⟨by omega, fun q => absurd q (by omega), fun _ => ⟨rfl, fnd i (by omega)⟩⟩, fun q => ⟨by unfold R32; omega, ⟨by omega, by omega⟩, fun _ => ⟨by omega, fun q => absurd q (by omega), fun _ => ⟨rfl, fnd i (by omega)⟩⟩, fun q2 => absurd (a7 q) (by omega)⟩⟩⟩⟩⟩⟩⟩⟩
  have go : 0 ≤ y2 → y2 < h 89 5 → 0 ≤ y3 → y3 ≤ 999 → (0 < h 89 6 → h 96 (h 89 6 - 1) ≤ y3) → ((y1 = 0 → (((h 81 1) ≠ (-1) → Wp X 6 3 59 [vr 6, vi 0, vi y2, vi y3, vr 81, vi 0] [] h (fun r h1 => ∃ a : Int, r = some (vi a) ∧ Wp X 3 67 0 [vr 89, vi y1, vi y2, vi y3, vu] [] h1 (fun r2 h2 => r2 = some (vi a) ∧ Inv h2))) ∧ ((h 81 1) = (-1) → (fun (r : Option aV) (h1 : HP) => ∃ a : Int, r = some (vi a) ∧ Wp X 3 67 0 [vr 89, vi y1, vi y2, vi y3, vu] [] h1 (fun r2 h2 => r2 = some (vi a) ∧ Inv h2)) (some (vi (-11))) (upd2 h 6 10 1)))) ∧ (y1 = 1 → (((h 83 1) ≠ (-1) → Wp X 6 3 59 [vr 6, vi 1, vi y2, vi y3, vr 83, vi 0] [] h (fun r h1 => ∃ a : Int, r = some (vi a) ∧ Wp X 3 67 0 [vr 89, vi y1, vi y2, vi y3, vu] [] h1 (fun r2 h2 => r2 = some (vi a) ∧ Inv h2))) ∧ ((h 83 1) = (-1) → (fun (r : Option aV) (h1 : HP) => ∃ a : Int, r = some (vi a) ∧ Wp X 3 67 0 [vr 89, vi y1, vi y2, vi y3, vu] [] h1 (fun r2 h2 => r2 = some (vi a) ∧ Inv h2)) (some (vi (-11))) (upd2 h 6 10 1)))) ∧ (y1 = 2 → (((h 85 1) ≠ (-1) → Wp X 6 3 59 [vr 6, vi 2, vi y2, vi y3, vr 85, vi 0] [] h (fun r h1 => ∃ a : Int, r = some (vi a) ∧ Wp X 3 67 0 [vr 89, vi y1, vi y2, vi y3, vu] [] h1 (fun r2 h2 => r2 = some (vi a) ∧ Inv h2))) ∧ ((h 85 1) = (-1) → (fun (r : Option aV) (h1 : HP) => ∃ a : Int, r = some (vi a) ∧ Wp X 3 67 0 [vr 89, vi y1, vi y2, vi y3, vu] [] h1 (fun r2 h2 => r2 = some (vi a) ∧ Inv h2)) (some (vi (-11))) (upd2 h 6 10 1)))) ∧ (y1 = 3 → (((h 87 1) ≠ (-1) → Wp X 6 3 59 [vr 6, vi 3, vi y2, vi y3, vr 87, vi 0] [] h (fun r h1 => ∃ a : Int, r = some (vi a) ∧ Wp X 3 67 0 [vr 89, vi y1, vi y2, vi y3, vu] [] h1 (fun r2 h2 => r2 = some (vi a) ∧ Inv h2))) ∧ ((h 87 1) = (-1) → (fun (r : Option aV) (h1 : HP) => ∃ a : Int, r = some (vi a) ∧ Wp X 3 67 0 [vr 89, vi y1, vi y2, vi y3, vu] [] h1 (fun r2 h2 => r2 = some (vi a) ∧ Inv h2)) (some (vi (-11))) (upd2 h 6 10 1))))) := by
    intro b3 b4 b5 b6 b7
    obtain ⟨s0, s1, s2, s3⟩ := hh
    have q0 := s0.2.1
    have q1 := s1.2.1
    have q2 := s2.2.1
    have q3 := s3.2.1
    refine ⟨fun e => ?_, fun e => ?_, fun e => ?_, fun e => ?_⟩
    · subst e
      exact ⟨fun q => L3_81 i ⟨b3, b4⟩ ⟨b5, b6⟩ b7 (by rw [s0.1] at q; omega) 5 0 h rfl Fr.rf (by rw [g7]; omega) (fun k hk => ⟨rfl, rfl, rfl, rfl⟩) (fun k hk => absurd hk (Nat.not_lt_zero k)) (fun k hk => absurd hk (Nat.not_lt_zero k)), fun q => null (by omega) (by omega) b3 b4 b5 b6 b7 (by rw [← s0.1]; omega)⟩
    · subst e
      exact ⟨fun q => L3_83 i ⟨b3, b4⟩ ⟨b5, b6⟩ b7 (by rw [s1.1] at q; omega) 5 0 h rfl Fr.rf (by rw [g7]; omega) (fun k hk => ⟨rfl, rfl, rfl, rfl⟩) (fun k hk => absurd hk (Nat.not_lt_zero k)) (fun k hk => absurd hk (Nat.not_lt_zero k)), fun q => null (by omega) (by omega) b3 b4 b5 b6 b7 (by rw [← s1.1]; omega)⟩
    · subst e
      exact ⟨fun q => L3_85 i ⟨b3, b4⟩ ⟨b5, b6⟩ b7 (by rw [s2.1] at q; omega) 5 0 h rfl Fr.rf (by rw [g7]; omega) (fun k hk => ⟨rfl, rfl, rfl, rfl⟩) (fun k hk => absurd hk (Nat.not_lt_zero k)) (fun k hk => absurd hk (Nat.not_lt_zero k)), fun q => null (by omega) (by omega) b3 b4 b5 b6 b7 (by rw [← s2.1]; omega)⟩
    · subst e
      exact ⟨fun q => L3_87 i ⟨b3, b4⟩ ⟨b5, b6⟩ b7 (by rw [s3.1] at q; omega) 5 0 h rfl Fr.rf (by rw [g7]; omega) (fun k hk => ⟨rfl, rfl, rfl, rfl⟩) (fun k hk => absurd hk (Nat.not_lt_zero k)) (fun k hk => absurd hk (Nat.not_lt_zero k)), fun q => null (by omega) (by omega) b3 b4 b5 b6 b7 (by rw [← s3.1]; omega)⟩
  refine S3_6_0 _ _ _ ⟨fun q => bad (by omega), fun a1 => ⟨fun a2 => ⟨fun q => bad (by omega), fun a3 => ⟨fun q => bad (by omega), fun a4 => ⟨fun a5 => ⟨fun q => bad (by omega), fun a6 => ⟨fun q => bad (by omega), fun a7 => go a3 (by omega) a6 a7 (fun c => absurd c (by omega))⟩⟩, fun a5 => ⟨by unfold R32; omega, ⟨by omega, by omega⟩, ?_⟩⟩⟩⟩, fun q => bad (by omega)⟩⟩
  rw [g7, el _ (by omega) (by omega)]
  have l0 := (i.1.2.1.2.2.1 (h 89 6 - 1).toNat (by omega)).1
  rw [show (((h 89 6 - 1).toNat : Nat) : Int) = h 89 6 - 1 by omega] at l0
  exact ⟨fun q => bad (fun c => by have := c.2.2.2.2.2.2 (by omega); omega), fun a8 => ⟨fun q => bad (by omega), fun a9 => go a3 (by omega) (by omega) a9 (fun _ => a8)⟩⟩
-- set
theorem K69 {h : HP} {Q : bQ} {x v : Int} (hx : 0 ≤ x ∧ x ≤ 9) (hv : stV 2 x ≤ v ∧ v ≤ stV 3 x) (hq : Q (some (vi (h 97 x))) (upd2 h 97 x v)) : Wp X 1 69 0 [vr 89, vi x, vi v, vu] [] h Q := by
  refine T69_89_0 _ _ ?_
  rcases (show x = 0 ∨ x = 1 ∨ x = 2 ∨ x = 3 ∨ x = 4 ∨ x = 5 ∨ x = 6 ∨ x = 7 ∨ x = 8 ∨ x = 9 by omega) with rfl | rfl | rfl | rfl | rfl | rfl | rfl | rfl | rfl | rfl
  all_goals simp only [stV, List.getD_cons_succ, List.getD_cons_zero, Int.reduceToNat] at hv
  all_goals repeat' first
    | exact hq
    | (exfalso; omega)
    | refine ⟨fun _ => ?_, fun _ => ?_⟩
    | refine ⟨by omega, ?_⟩
theorem K69b {h : HP} {Q : bQ} {x v : Int} (hv : ¬ (0 ≤ x ∧ x ≤ 9 ∧ stV 2 x ≤ v ∧ v ≤ stV 3 x)) (hq : Q (some (vi (-5))) h) : Wp X 1 69 0 [vr 89, vi x, vi v, vu] [] h Q := by
  refine T69_89_0 _ _ ?_
  by_cases hx : 0 ≤ x ∧ x ≤ 9
  · rcases (show x = 0 ∨ x = 1 ∨ x = 2 ∨ x = 3 ∨ x = 4 ∨ x = 5 ∨ x = 6 ∨ x = 7 ∨ x = 8 ∨ x = 9 by omega) with rfl | rfl | rfl | rfl | rfl | rfl | rfl | rfl | rfl | rfl
    all_goals simp only [stV, List.getD_cons_succ, List.getD_cons_zero, Int.reduceToNat] at hv
    all_goals repeat' first
      | exact hq
      | (exfalso; omega)
      | refine ⟨fun _ => ?_, fun _ => ?_⟩
      | refine ⟨by omega, ?_⟩
  · exact ⟨fun _ => hq, fun a1 => ⟨fun _ => hq, fun a2 => absurd ⟨a1, a2⟩ hx⟩⟩
theorem a4 (y1 y2 : Int) : Ag X Inv 6 4 1 69 vi [vr 6, vi y1, vi y2, vu] [vr 89, vi y1, vi y2, vu] := by
  intro h i
  have bad : ¬ (0 ≤ y1 ∧ y1 ≤ 9 ∧ stV 2 y1 ≤ y2 ∧ y2 ≤ stV 3 y1) → (fun (r : Option aV) (h1 : HP) => ∃ a : Int, r = some (vi a) ∧ Wp X 1 69 0 [vr 89, vi y1, vi y2, vu] [] h1 (fun r2 h2 => r2 = some (vi a) ∧ Inv h2)) (some (vi (-5))) h := fun q => ⟨-5, rfl, K69b q ⟨rfl, i⟩⟩
  refine S4_6_0 _ _ ⟨fun q => bad (fun c => by omega), fun a1 => ⟨fun a2 => ⟨fun q => bad (fun c => by omega), fun a3 => ⟨fun a4 => ?_, fun q => bad (fun c => by omega)⟩⟩, fun q => bad (fun c => by omega)⟩⟩
  have t := i.1.2.1
  have sn := i.1.1
  have i97 : ∀ j : Int, 0 ≤ j → j < 10 → stV 2 j ≤ h 97 j ∧ h 97 j ≤ stV 3 j := by
    intro j b1 b2
    obtain ⟨-, s1, s2, s3, s4, s5, s6, s7, s8⟩ := sn
    unfold Sok at s1
    rcases (show j = 0 ∨ j = 1 ∨ j = 2 ∨ j = 3 ∨ j = 4 ∨ j = 5 ∨ j = 6 ∨ j = 7 ∨ j = 8 ∨ j = 9 by omega) with rfl | rfl | rfl | rfl | rfl | rfl | rfl | rfl | rfl | rfl
    all_goals simp only [stV, List.getD_cons_succ, List.getD_cons_zero, Int.reduceToNat]
    all_goals omega
  have Fc : Fr (fun a j => a = 7) h (upd2 h 7 y1 y2) := Fr.rf.up rfl
  generalize hh : upd2 h 7 y1 y2 = hc at Fc
  have r7 : ∀ j, hc 7 j = if j = y1 then y2 else h 7 j := fun j => by rw [← hh, upd2_at]
  have n97 : ∀ j : Int, 0 ≤ j → j < 10 → stV 2 j ≤ (if j = y1 then y2 else h 97 j) ∧ (if j = y1 then y2 else h 97 j) ≤ stV 3 j := by
    intro j b1 b2
    by_cases w : j = y1
    · rw [if_pos w, w]; exact ⟨a3, a4⟩
    · rw [if_neg w]; exact i97 j b1 b2
  have C0 := Cok_of t
  have C : Cok hc := by
    unfold Cok
    rw [Fc 8 8 (by omega), Fc 8 7 (by omega), show hc 9 = h 9 from funext fun j => Fc 9 j (by omega), show hc 10 = h 10 from funext fun j => Fc 10 j (by omega), show hc 11 = h 11 from funext fun j => Fc 11 j (by omega), show hc 12 = h 12 from funext fun j => Fc 12 j (by omega)]
    exact C0
  have v7 : ∀ j : Int, 0 ≤ j → j < 10 → stV 2 j ≤ hc 7 j ∧ hc 7 j ≤ stV 3 j := fun j b1 b2 => by
    rw [r7, sn.1 j b1 b2]; exact n97 j b1 b2
  have w0 := v7 0 (by omega) (by omega)
  have w1 := v7 1 (by omega) (by omega)
  have w2 := v7 2 (by omega) (by omega)
  simp only [stV, List.getD_cons_succ, List.getD_cons_zero, Int.reduceToNat] at w0 w1 w2
  refine (K32 C w0 w1 w2).mono fun v h2 _ f => ?_
  obtain ⟨rfl, F2, d⟩ := f
  have G : Fr (fun a j => a = 7 ∨ fD a j) h h2 := (Fc.mo fun a j c => .inl c).tr (F2.mo fun a j c => .inr c)
  have e97 : ∀ j, h2 97 j = h 97 j := fun j => G _ _ (by unfold fD; omega)
  refine S4_6_48 _ _ _ _ ⟨h 7 y1, rfl, K69 ⟨a1, by omega⟩ ⟨a3, a4⟩ ⟨by rw [e97, sn.1 y1 a1 (by omega)], ?_⟩⟩
  have F3 : Fr (fun a _ => a = 97) h2 (upd2 h2 97 y1 y2) := Fr.rf.up rfl
  have r97 : ∀ j, (upd2 h2 97 y1 y2) 97 j = if j = y1 then y2 else h 97 j := fun j => by rw [upd2_at, e97]
  generalize upd2 h2 97 y1 y2 = h3 at F3 r97
  have H : Fr (fun a j => a = 7 ∨ fD a j ∨ a = 97) h h3 := (G.mo fun a j c => c.elim .inl (fun c => .inr (.inl c))).tr (F3.mo fun a j c => .inr (.inr c))
  have q7 : ∀ j, h3 7 j = hc 7 j := fun j => (F3 _ _ (by omega)).trans (F2 _ _ (by unfold fD; omega))
  have j1 : I_set h3 := by
    have k : ∀ j : Int, 0 ≤ j → j < 10 → stV 2 j ≤ h3 97 j ∧ h3 97 j ≤ stV 3 j := fun j b1 b2 => by rw [r97]; exact n97 j b1 b2
    have k0 := k 0 (by omega) (by omega)
    have k1 := k 1 (by omega) (by omega)
    have k2 := k 2 (by omega) (by omega)
    have k3 := k 3 (by omega) (by omega)
    have k4 := k 4 (by omega) (by omega)
    have k5 := k 5 (by omega) (by omega)
    have k6 := k 6 (by omega) (by omega)
    have k7 := k 7 (by omega) (by omega)
    have k8 := k 8 (by omega) (by omega)
    have k9 := k 9 (by omega) (by omega)
    simp only [stV, List.getD_cons_succ, List.getD_cons_zero, Int.reduceToNat] at k0 k1 k2 k3 k4 k5 k6 k7 k8 k9
    refine ⟨fun j b1 b2 => ?_, by unfold Sok; omega, k3, k4, k5, k6, k7, k8, k9⟩
    rw [q7, r7, r97, sn.1 j b1 b2]
  obtain ⟨⟨i1, i2, i3, i4, i5, i6, i7, i8⟩, nt⟩ := i
  have j2 := i2.fr H (fun a j c => by unfold fD at c; unfold rTel; omega)
  exact ⟨⟨j1, j2, der_re d F2 F3 (fun a j c => by unfold rCq; omega) (fun a j c => by unfold rDc; omega) j2 j1, i4.fr H (fun a j c => by unfold fD at c; omega), i5.fr H (fun a j c => by unfold fD at c; omega), i6.fr H (fun a j c => by unfold fD at c; unfold rC; omega), i7.fr H (fun a j c => by unfold fD at c; unfold rO; omega), i8.fr H (fun a j c => by unfold fD at c; unfold rL; omega)⟩, nt.fr2 H (fun a j c => by unfold fD at c; omega)⟩
end
