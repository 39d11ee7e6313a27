-- ===== odds agrees =====
theorem su_R {f : Int → Int} : ∀ n : Nat, (∀ j : Nat, j < n → R32 (f j)) → -(2147483648 * (n : Int)) ≤ su f n ∧ su f n ≤ 2147483648 * (n : Int)
  | 0, _ => by show -(2147483648 * ((0 : Nat) : Int)) ≤ (0 : Int) ∧ (0 : Int) ≤ 2147483648 * ((0 : Nat) : Int); omega
  | n + 1, H => by
    have ih := su_R n (fun j hj => H j (by omega))
    have r := H n (by omega)
    unfold R32 at r
    have e : su f (n + 1) = su f n + f n := rfl
    rw [e]
    omega
def od (h : HP) (s j : Int) : Int := h 92 (60 * s + j)
def odok (h : HP) (s : Int) : Prop := (∀ j : Nat, j < 8 → 0 ≤ od h s j) ∧ su (od h s) 8 = 64
theorem od_inv {h h2 : HP} {s : Int} (i : Inv h) (ok : odok h s) (F : Fr (fun a j => (a = 70 ∨ a = 111) ∧ 0 ≤ j ∧ j < 8) h h2) (e1 : ∀ j : Nat, j < 8 → h2 70 j = od h s j) (e2 : ∀ j : Nat, j < 8 → h2 111 j = od h s j) : Inv h2 := by
  obtain ⟨⟨i1, i2, i3, i4, i5, i6, i7, i8⟩, nt⟩ := i
  refine ⟨⟨i1.fr F (fun a j c => by unfold rSet; omega), i2.fr F (fun a j c => by unfold rTel; omega), i3.fr i2.1.1.2.1 F (fun a j c => by unfold rDer; omega), i4.fr F (fun a j c => by omega), i5.fr F (fun a j c => by omega), i6.fr F (fun a j c => by unfold rC; omega), ⟨fun c c0 c1 => ?_, ?_⟩, i8.fr F (fun a j c => by unfold rL; omega)⟩, nt.fr2 F (fun a j c => by omega)⟩
  · obtain ⟨p, rfl⟩ : ∃ p : Nat, c = p := ⟨c.toNat, by omega⟩
    rw [e1 p (by omega), e2 p (by omega)]
    exact ⟨ok.1 p (by omega), rfl⟩
  · rw [su_cg (g := od h s) (fun p hp => e2 p hp)]
    exact ok.2
section
variable {X : Nat × (Int → Int)}
theorem M108_81 {h h1 : HP} (i : Inv h) (hf : 0 ≤ h 90 0) (h8 : 8 ≤ h 91 0) (F0 : Fr (fun a j => a = 70 ∧ 0 ≤ j ∧ j < 8) h h1) (e0 : odok h 0 → ∀ j : Nat, j < 8 → h1 70 j = od h 0 j) (n0 : ¬ odok h 0 → h1 = h) {a : Int} (ha1 : odok h 0 → a = 1) (ha0 : ¬ odok h 0 → a = -3) : Wp X 2 108 0 [vr 89, vi 0, vu, vu, vu, vu] [] h1 (fun r2 h2 => r2 = some (vi a) ∧ Inv h2) := by
  have sh := sh_of_81 i
  have it := sh.2.2.2.2.2 hf
  have h60 := sh.2.2.2.2.1
  have e90 : h1 90 0 = h 90 0 := F0 _ _ (by omega)
  have e91 : h1 91 0 = h 91 0 := F0 _ _ (by omega)
  have hR : ∀ j : Nat, j < 8 → R32 (od h 0 j) := fun j hj => (it.2 j (by omega) (by omega)).2
  have e92 : ∀ n : Nat, n < 8 → h1 92 (60 * 0 + (n : Int)) = od h 0 n := fun n hn => F0 _ _ (by omega)
  have wr : odok h 0 → ∀ (k n : Nat) (h2 : HP) (z2 z4 : aV), n + k = 8 → Fr (fun a j => a = 111 ∧ 0 ≤ j ∧ j < 8) h1 h2 → (∀ q : Nat, q < n → h2 111 q = od h 0 q) → Wp X 2 108 125 [vr 89, vi 0, z2, vu, z4, vi n] [] h2 (fun r2 h2 => r2 = some (vi a) ∧ Inv h2) := by
    intro ok k
    induction k with
    | zero =>
      intro n h2 z2 z4 hn F2 w
      refine S108_89_125 _ _ _ _ ⟨fun _ => ⟨by rw [ha1 ok], ?_⟩, fun c => absurd c (by omega)⟩
      refine od_inv i ok ((F0.mo fun a j c => by omega).tr (F2.mo fun a j c => by omega)) (fun j hj => ?_) (fun j hj => w j (by omega))
      exact (F2 _ _ (by omega)).trans (e0 ok j hj)
    | succ k ih =>
      intro n h2 z2 z4 hn F2 w
      have e : h2 92 (60 * 0 + (n : Int)) = od h 0 n := (F2 _ _ (by omega)).trans (e92 n (by omega))
      refine S108_89_125 _ _ _ _ ⟨fun c => absurd c (by omega), fun _ => ⟨by unfold R32; omega, by unfold R32; omega, by omega, by omega, ?_⟩⟩
      rw [e]
      refine ih (n + 1) _ _ _ (by omega) (F2.up ⟨rfl, by omega, by omega⟩) (fun q hq => ?_)
      rw [upd2_at]
      by_cases y : q = n
      · rw [if_pos (by omega), y]
      · rw [if_neg (by omega)]; exact w q (by omega)
  have L : ∀ (k n : Nat) (x4 : Int), n + k = 8 → ((x4 = 1 ∧ ∀ q : Nat, q < n → 0 ≤ od h 0 q) ∨ (x4 = 0 ∧ ¬ ∀ q : Nat, q < n → 0 ≤ od h 0 q)) → Wp X 2 108 50 [vr 89, vi 0, vl (su (od h 0) n), vu, vi x4, vi n] [] h1 (fun r2 h2 => r2 = some (vi a) ∧ Inv h2) := by
    intro k
    induction k with
    | zero =>
      intro n x4 hn fl
      have hn : n = 8 := by omega
      subst hn
      have no : ¬ odok h 0 → (some (vi (-3)) = some (vi a) ∧ Inv h1) := fun q => ⟨by rw [ha0 q], by rw [n0 q]; exact i⟩
      refine T108_89_50 _ _ _ _ ⟨fun _ => ⟨fun c => no (fun ok => ?_), fun c => ⟨fun c2 => ?_, fun c2 => no (fun ok => c2 ok.2)⟩⟩, fun c => absurd c (by omega)⟩
      · rcases fl with ⟨q, _⟩ | ⟨_, q⟩
        · omega
        · exact q ok.1
      · rcases fl with ⟨_, q⟩ | ⟨q, _⟩
        · exact wr ⟨q, c2⟩ 8 0 h1 _ _ (by omega) Fr.rf (fun q hq => absurd hq (Nat.not_lt_zero q))
        · omega
    | succ k ih =>
      intro n x4 hn fl
      have e := e92 n (by omega)
      have sr := su_R (f := od h 0) n (fun j hj => hR j (by omega))
      have r := hR n (by omega)
      unfold R32 at r
      have es : su (od h 0) n + od h 0 n = su (od h 0) (n + 1) := rfl
      refine T108_89_50 _ _ _ _ ⟨fun c => absurd c (by omega), fun _ => ⟨fun c => ⟨by unfold R32; omega, by unfold R32; omega, by omega, ?_⟩, fun c => ⟨by unfold R32; omega, by unfold R32; omega, by omega, ?_⟩⟩⟩
      · rw [e]
        refine ⟨by unfold R64; omega, by unfold R32; omega, ?_⟩
        rw [es]
        refine ih (n + 1) 0 (by omega) (.inr ⟨rfl, fun w => ?_⟩)
        rcases fl with ⟨q, _⟩ | ⟨_, q⟩
        · omega
        · exact q (fun p hp => w p (by omega))
      · rw [e]
        refine ⟨fun c2 => ⟨by unfold R64; omega, by unfold R32; omega, ?_⟩, fun c2 => ⟨by unfold R64; omega, by unfold R32; omega, ?_⟩⟩
        · rw [es]
          exact ih (n + 1) 0 (by omega) (.inr ⟨rfl, fun w => absurd (w n (by omega)) (by omega)⟩)
        · rw [es]
          refine ih (n + 1) 1 (by omega) (.inl ⟨rfl, fun p hp => ?_⟩)
          rcases fl with ⟨_, q⟩ | ⟨q, _⟩
          · by_cases y : p = n
            · rw [y]; exact c2
            · exact q p (by omega)
          · omega
  refine T108_89_0 _ ?_
  rw [e90, e91]
  exact ⟨fun c => absurd c (by omega), fun _ => ⟨fun c => absurd c (by omega), fun _ => ⟨by omega, fun _ => ⟨fun _ => L 8 0 1 (by omega) (.inl ⟨rfl, fun q hq => absurd hq (Nat.not_lt_zero q)⟩), fun c => absurd c (by omega)⟩, fun c => absurd c (by omega)⟩⟩⟩
theorem K178_81 {h : HP} (i : Inv h) (hf : 0 ≤ h 90 0) (h8 : 8 ≤ h 91 0) : Wp X 2 178 0 [vr 69, vr 81, vu, vu, vu] [] h (fun v h1 => ((v = some (vi 1) ∧ odok h 0) ∨ (v = some (vi 0) ∧ ¬ odok h 0)) ∧ Fr (fun a j => a = 70 ∧ 0 ≤ j ∧ j < 8) h h1 ∧ (odok h 0 → ∀ j : Nat, j < 8 → h1 70 j = od h 0 j) ∧ (¬ odok h 0 → h1 = h)) := by
  have sh := sh_of_81 i
  have it := sh.2.2.2.2.2 hf
  have h60 := sh.2.2.2.2.1
  have hR : ∀ j : Nat, j < 8 → R32 (od h 0 j) := fun j hj => (it.2 j (by omega) (by omega)).2
  have hI : ∀ j : Nat, j < 8 → h 82 j = od h 0 j := fun j hj => (it.2 j (by omega) (by omega)).1
  have e2 := it.1
  have no : ¬ odok h 0 → (((some (vi 0) = some (vi 1) ∧ odok h 0) ∨ (some (vi 0) = some (vi 0) ∧ ¬ odok h 0)) ∧ Fr (fun a j => a = 70 ∧ 0 ≤ j ∧ j < 8) h h ∧ (odok h 0 → ∀ j : Nat, j < 8 → h 70 j = od h 0 j) ∧ (¬ odok h 0 → h = h)) := fun q => ⟨.inr ⟨rfl, q⟩, Fr.rf, fun c => absurd c q, fun _ => rfl⟩
  have wr : odok h 0 → ∀ (k n : Nat) (h1 : HP) (z2 : aV), n + k = 8 → Fr (fun a j => a = 70 ∧ 0 ≤ j ∧ j < 8) h h1 → (∀ q : Nat, q < n → h1 70 q = od h 0 q) → Wp X 2 178 52 [vr 69, vr 81, z2, vu, vi n] [] h1 (fun v h1 => ((v = some (vi 1) ∧ odok h 0) ∨ (v = some (vi 0) ∧ ¬ odok h 0)) ∧ Fr (fun a j => a = 70 ∧ 0 ≤ j ∧ j < 8) h h1 ∧ (odok h 0 → ∀ j : Nat, j < 8 → h1 70 j = od h 0 j) ∧ (¬ odok h 0 → h1 = h)) := by
    intro ok k
    induction k with
    | zero =>
      intro n h1 z2 hn F w
      exact S178_69_81_52 _ _ ⟨fun _ => ⟨.inl ⟨rfl, ok⟩, F, fun _ j hj => w j (by omega), fun c => absurd ok c⟩, fun c => absurd c (by omega)⟩
    | succ k ih =>
      intro n h1 z2 hn F w
      have e : h1 82 (n : Int) = od h 0 n := (F _ _ (by omega)).trans (hI n (by omega))
      have e2' : h1 81 2 = h 91 0 := (F _ _ (by omega)).trans e2
      refine S178_69_81_52 _ _ ⟨fun c => absurd c (by omega), fun _ => ⟨fun c => absurd c (by omega), fun _ => ⟨by rw [e2']; unfold R32; omega, fun c => absurd c (by rw [e2']; omega), fun _ => ?_⟩⟩⟩
      rw [e]
      refine ih (n + 1) _ _ (by omega) (F.up ⟨rfl, by omega, by omega⟩) (fun q hq => ?_)
      rw [upd2_at]
      by_cases y : q = n
      · rw [if_pos (by omega), y]
      · rw [if_neg (by omega)]; exact w q (by omega)
  have L : ∀ (k n : Nat), n + k = 8 → (∀ q : Nat, q < n → 0 ≤ od h 0 q) → Wp X 2 178 5 [vr 69, vr 81, vl (su (od h 0) n), vu, vi n] [] h (fun v h1 => ((v = some (vi 1) ∧ odok h 0) ∨ (v = some (vi 0) ∧ ¬ odok h 0)) ∧ Fr (fun a j => a = 70 ∧ 0 ≤ j ∧ j < 8) h h1 ∧ (odok h 0 → ∀ j : Nat, j < 8 → h1 70 j = od h 0 j) ∧ (¬ odok h 0 → h1 = h)) := by
    intro k
    induction k with
    | zero =>
      intro n hn fl
      have hn : n = 8 := by omega
      subst hn
      exact S178_69_81_5 _ _ ⟨fun _ => ⟨fun c => wr ⟨fl, Eq.mp lcp_e c⟩ 8 0 h _ (by omega) Fr.rf (fun q hq => absurd hq (Nat.not_lt_zero q)), fun c => no (fun ok => Eq.mp lcp_n c ok.2)⟩, fun c => absurd c (by omega)⟩
    | succ k ih =>
      intro n hn fl
      have e := hI n (by omega)
      have sr := su_R (f := od h 0) n (fun j hj => hR j (by omega))
      have r := hR n (by omega)
      unfold R32 at r
      have es : su (od h 0) n + od h 0 n = su (od h 0) (n + 1) := rfl
      refine S178_69_81_5 _ _ ⟨fun c => absurd c (by omega), fun _ => ⟨fun c => absurd c (by omega), fun _ => ⟨by rw [e2]; unfold R32; omega, fun c => absurd c (by rw [e2]; omega), fun _ => ?_⟩⟩⟩
      rw [e]
      refine ⟨fun c => ⟨by unfold R64; omega, ?_⟩, fun c => no (fun ok => absurd (ok.1 n (by omega)) (by omega))⟩
      rw [es]
      refine ih (n + 1) (by omega) (fun p hp => ?_)
      by_cases y : p = n
      · rw [y]; exact c
      · exact fl p (by omega)
  exact S178_69_81_0 (L 8 0 (by omega) (fun q hq => absurd hq (Nat.not_lt_zero q)))
theorem od_81 {h : HP} (i : Inv h) : (((h 81 1) ≠ (-1) → ((8 ≤ (h 81 2) → Wp X 2 178 0 [vr 69, vr 81, vu, vu, vu] [] h (fun v h' => Wp X 3 15 55 [vr 6, vi 0, vr 81] (psh v []) h' (AgP X 2 108 [vr 89, vi 0, vu, vu, vu, vu]))) ∧ ((h 81 2) < 8 → AgP X 2 108 [vr 89, vi 0, vu, vu, vu, vu] (some (vi (-12))) (upd2 h 6 10 2)))) ∧ ((h 81 1) = (-1) → AgP X 2 108 [vr 89, vi 0, vu, vu, vu, vu] (some (vi (-11))) (upd2 h 6 10 1))) := by
  have sh := sh_of_81 i
  have s1 := sh.1
  have s2 := sh.2.1
  refine ⟨fun q1 => ?_, fun q1 => ⟨-11, rfl, T108_89_0 _ ?_⟩⟩
  · have hf : 0 ≤ h 90 0 := by omega
    have e2 := (sh.2.2.2.2.2 hf).1
    rw [e2]
    refine ⟨fun q2 => (K178_81 i hf q2).mono fun v h1 _ f => ?_, fun q2 => ⟨-12, rfl, T108_89_0 _ ?_⟩⟩
    · obtain ⟨f1, F, e0, n0⟩ := f
      rcases f1 with ⟨rfl, ok⟩ | ⟨rfl, ok⟩
      · exact S15_6_55 _ _ _ _ ⟨fun c => absurd c (by decide), fun _ => ⟨1, rfl, M108_81 i hf q2 F e0 n0 (fun _ => rfl) (fun c => absurd ok c)⟩⟩
      · exact S15_6_55 _ _ _ _ ⟨fun _ => ⟨-3, rfl, M108_81 i hf q2 F e0 n0 (fun c => absurd c ok) (fun _ => rfl)⟩, fun c => absurd rfl c⟩
    · rw [upd2_ne (a := 6) (b := 90) (by decide), upd2_ne (a := 6) (b := 91) (by decide)]
      exact ⟨fun c => absurd c (by omega), fun _ => ⟨fun c => absurd c (by omega), fun _ => ⟨by omega, fun _ => ⟨fun c => absurd c (by omega), fun _ => ⟨rfl, fnd i (by omega)⟩⟩, fun c => absurd c (by omega)⟩⟩⟩
  · rw [upd2_ne (a := 6) (b := 90) (by decide), upd2_ne (a := 6) (b := 91) (by decide)]
    exact ⟨fun c => absurd c (by omega), fun _ => ⟨fun c => absurd c (by omega), fun _ => ⟨by omega, fun c => absurd c (by omega), fun _ => ⟨rfl, fnd i (by omega)⟩⟩⟩⟩
theorem M108_83 {h h1 : HP} (i : Inv h) (hf : 0 ≤ h 90 1) (h8 : 8 ≤ h 91 1) (F0 : Fr (fun a j => a = 70 ∧ 0 ≤ j ∧ j < 8) h h1) (e0 : odok h 1 → ∀ j : Nat, j < 8 → h1 70 j = od h 1 j) (n0 : ¬ odok h 1 → h1 = h) {a : Int} (ha1 : odok h 1 → a = 1) (ha0 : ¬ odok h 1 → a = -3) : Wp X 2 108 0 [vr 89, vi 1, vu, vu, vu, vu] [] h1 (fun r2 h2 => r2 = some (vi a) ∧ Inv h2) := by
  have sh := sh_of_83 i
  have it := sh.2.2.2.2.2 hf
  have h60 := sh.2.2.2.2.1
  have e90 : h1 90 1 = h 90 1 := F0 _ _ (by omega)
  have e91 : h1 91 1 = h 91 1 := F0 _ _ (by omega)
  have hR : ∀ j : Nat, j < 8 → R32 (od h 1 j) := fun j hj => (it.2 j (by omega) (by omega)).2
  have e92 : ∀ n : Nat, n < 8 → h1 92 (60 * 1 + (n : Int)) = od h 1 n := fun n hn => F0 _ _ (by omega)
  have wr : odok h 1 → ∀ (k n : Nat) (h2 : HP) (z2 z4 : aV), n + k = 8 → Fr (fun a j => a = 111 ∧ 0 ≤ j ∧ j < 8) h1 h2 → (∀ q : Nat, q < n → h2 111 q = od h 1 q) → Wp X 2 108 125 [vr 89, vi 1, z2, vu, z4, vi n] [] h2 (fun r2 h2 => r2 = some (vi a) ∧ Inv h2) := by
    intro ok k
    induction k with
    | zero =>
      intro n h2 z2 z4 hn F2 w
      refine S108_89_125 _ _ _ _ ⟨fun _ => ⟨by rw [ha1 ok], ?_⟩, fun c => absurd c (by omega)⟩
      refine od_inv i ok ((F0.mo fun a j c => by omega).tr (F2.mo fun a j c => by omega)) (fun j hj => ?_) (fun j hj => w j (by omega))
      exact (F2 _ _ (by omega)).trans (e0 ok j hj)
    | succ k ih =>
      intro n h2 z2 z4 hn F2 w
      have e : h2 92 (60 * 1 + (n : Int)) = od h 1 n := (F2 _ _ (by omega)).trans (e92 n (by omega))
      refine S108_89_125 _ _ _ _ ⟨fun c => absurd c (by omega), fun _ => ⟨by unfold R32; omega, by unfold R32; omega, by omega, by omega, ?_⟩⟩
      rw [e]
      refine ih (n + 1) _ _ _ (by omega) (F2.up ⟨rfl, by omega, by omega⟩) (fun q hq => ?_)
      rw [upd2_at]
      by_cases y : q = n
      · rw [if_pos (by omega), y]
      · rw [if_neg (by omega)]; exact w q (by omega)
  have L : ∀ (k n : Nat) (x4 : Int), n + k = 8 → ((x4 = 1 ∧ ∀ q : Nat, q < n → 0 ≤ od h 1 q) ∨ (x4 = 0 ∧ ¬ ∀ q : Nat, q < n → 0 ≤ od h 1 q)) → Wp X 2 108 50 [vr 89, vi 1, vl (su (od h 1) n), vu, vi x4, vi n] [] h1 (fun r2 h2 => r2 = some (vi a) ∧ Inv h2) := by
    intro k
    induction k with
    | zero =>
      intro n x4 hn fl
      have hn : n = 8 := by omega
      subst hn
      have no : ¬ odok h 1 → (some (vi (-3)) = some (vi a) ∧ Inv h1) := fun q => ⟨by rw [ha0 q], by rw [n0 q]; exact i⟩
      refine T108_89_50 _ _ _ _ ⟨fun _ => ⟨fun c => no (fun ok => ?_), fun c => ⟨fun c2 => ?_, fun c2 => no (fun ok => c2 ok.2)⟩⟩, fun c => absurd c (by omega)⟩
      · rcases fl with ⟨q, _⟩ | ⟨_, q⟩
        · omega
        · exact q ok.1
      · rcases fl with ⟨_, q⟩ | ⟨q, _⟩
        · exact wr ⟨q, c2⟩ 8 0 h1 _ _ (by omega) Fr.rf (fun q hq => absurd hq (Nat.not_lt_zero q))
        · omega
    | succ k ih =>
      intro n x4 hn fl
      have e := e92 n (by omega)
      have sr := su_R (f := od h 1) n (fun j hj => hR j (by omega))
      have r := hR n (by omega)
      unfold R32 at r
      have es : su (od h 1) n + od h 1 n = su (od h 1) (n + 1) := rfl
      refine T108_89_50 _ _ _ _ ⟨fun c => absurd c (by omega), fun _ => ⟨fun c => ⟨by unfold R32; omega, by unfold R32; omega, by omega, ?_⟩, fun c => ⟨by unfold R32; omega, by unfold R32; omega, by omega, ?_⟩⟩⟩
      · rw [e]
        refine ⟨by unfold R64; omega, by unfold R32; omega, ?_⟩
        rw [es]
        refine ih (n + 1) 0 (by omega) (.inr ⟨rfl, fun w => ?_⟩)
        rcases fl with ⟨q, _⟩ | ⟨_, q⟩
        · omega
        · exact q (fun p hp => w p (by omega))
      · rw [e]
        refine ⟨fun c2 => ⟨by unfold R64; omega, by unfold R32; omega, ?_⟩, fun c2 => ⟨by unfold R64; omega, by unfold R32; omega, ?_⟩⟩
        · rw [es]
          exact ih (n + 1) 0 (by omega) (.inr ⟨rfl, fun w => absurd (w n (by omega)) (by omega)⟩)
        · rw [es]
          refine ih (n + 1) 1 (by omega) (.inl ⟨rfl, fun p hp => ?_⟩)
          rcases fl with ⟨_, q⟩ | ⟨q, _⟩
          · by_cases y : p = n
            · rw [y]; exact c2
            · exact q p (by omega)
          · omega
  refine T108_89_0 _ ?_
  rw [e90, e91]
  exact ⟨fun c => absurd c (by omega), fun _ => ⟨fun c => absurd c (by omega), fun _ => ⟨by omega, fun _ => ⟨fun _ => L 8 0 1 (by omega) (.inl ⟨rfl, fun q hq => absurd hq (Nat.not_lt_zero q)⟩), fun c => absurd c (by omega)⟩, fun c => absurd c (by omega)⟩⟩⟩
theorem K178_83 {h : HP} (i : Inv h) (hf : 0 ≤ h 90 1) (h8 : 8 ≤ h 91 1) : Wp X 2 178 0 [vr 69, vr 83, vu, vu, vu] [] h (fun v h1 => ((v = some (vi 1) ∧ odok h 1) ∨ (v = some (vi 0) ∧ ¬ odok h 1)) ∧ Fr (fun a j => a = 70 ∧ 0 ≤ j ∧ j < 8) h h1 ∧ (odok h 1 → ∀ j : Nat, j < 8 → h1 70 j = od h 1 j) ∧ (¬ odok h 1 → h1 = h)) := by
  have sh := sh_of_83 i
  have it := sh.2.2.2.2.2 hf
  have h60 := sh.2.2.2.2.1
  have hR : ∀ j : Nat, j < 8 → R32 (od h 1 j) := fun j hj => (it.2 j (by omega) (by omega)).2
  have hI : ∀ j : Nat, j < 8 → h 84 j = od h 1 j := fun j hj => (it.2 j (by omega) (by omega)).1
  have e2 := it.1
  have no : ¬ odok h 1 → (((some (vi 0) = some (vi 1) ∧ odok h 1) ∨ (some (vi 0) = some (vi 0) ∧ ¬ odok h 1)) ∧ Fr (fun a j => a = 70 ∧ 0 ≤ j ∧ j < 8) h h ∧ (odok h 1 → ∀ j : Nat, j < 8 → h 70 j = od h 1 j) ∧ (¬ odok h 1 → h = h)) := fun q => ⟨.inr ⟨rfl, q⟩, Fr.rf, fun c => absurd c q, fun _ => rfl⟩
  have wr : odok h 1 → ∀ (k n : Nat) (h1 : HP) (z2 : aV), n + k = 8 → Fr (fun a j => a = 70 ∧ 0 ≤ j ∧ j < 8) h h1 → (∀ q : Nat, q < n → h1 70 q = od h 1 q) → Wp X 2 178 52 [vr 69, vr 83, z2, vu, vi n] [] h1 (fun v h1 => ((v = some (vi 1) ∧ odok h 1) ∨ (v = some (vi 0) ∧ ¬ odok h 1)) ∧ Fr (fun a j => a = 70 ∧ 0 ≤ j ∧ j < 8) h h1 ∧ (odok h 1 → ∀ j : Nat, j < 8 → h1 70 j = od h 1 j) ∧ (¬ odok h 1 → h1 = h)) := by
    intro ok k
    induction k with
    | zero =>
      intro n h1 z2 hn F w
      exact S178_69_83_52 _ _ ⟨fun _ => ⟨.inl ⟨rfl, ok⟩, F, fun _ j hj => w j (by omega), fun c => absurd ok c⟩, fun c => absurd c (by omega)⟩
    | succ k ih =>
      intro n h1 z2 hn F w
      have e : h1 84 (n : Int) = od h 1 n := (F _ _ (by omega)).trans (hI n (by omega))
      have e2' : h1 83 2 = h 91 1 := (F _ _ (by omega)).trans e2
      refine S178_69_83_52 _ _ ⟨fun c => absurd c (by omega), fun _ => ⟨fun c => absurd c (by omega), fun _ => ⟨by rw [e2']; unfold R32; omega, fun c => absurd c (by rw [e2']; omega), fun _ => ?_⟩⟩⟩
      rw [e]
      refine ih (n + 1) _ _ (by omega) (F.up ⟨rfl, by omega, by omega⟩) (fun q hq => ?_)
      rw [upd2_at]
      by_cases y : q = n
      · rw [if_pos (by omega), y]
      · rw [if_neg (by omega)]; exact w q (by omega)
  have L : ∀ (k n : Nat), n + k = 8 → (∀ q : Nat, q < n → 0 ≤ od h 1 q) → Wp X 2 178 5 [vr 69, vr 83, vl (su (od h 1) n), vu, vi n] [] h (fun v h1 => ((v = some (vi 1) ∧ odok h 1) ∨ (v = some (vi 0) ∧ ¬ odok h 1)) ∧ Fr (fun a j => a = 70 ∧ 0 ≤ j ∧ j < 8) h h1 ∧ (odok h 1 → ∀ j : Nat, j < 8 → h1 70 j = od h 1 j) ∧ (¬ odok h 1 → h1 = h)) := by
    intro k
    induction k with
    | zero =>
      intro n hn fl
      have hn : n = 8 := by omega
      subst hn
      exact S178_69_83_5 _ _ ⟨fun _ => ⟨fun c => wr ⟨fl, Eq.mp lcp_e c⟩ 8 0 h _ (by omega) Fr.rf (fun q hq => absurd hq (Nat.not_lt_zero q)), fun c => no (fun ok => Eq.mp lcp_n c ok.2)⟩, fun c => absurd c (by omega)⟩
    | succ k ih =>
      intro n hn fl
      have e := hI n (by omega)
      have sr := su_R (f := od h 1) n (fun j hj => hR j (by omega))
      have r := hR n (by omega)
      unfold R32 at r
      have es : su (od h 1) n + od h 1 n = su (od h 1) (n + 1) := rfl
      refine S178_69_83_5 _ _ ⟨fun c => absurd c (by omega), fun _ => ⟨fun c => absurd c (by omega), fun _ => ⟨by rw [e2]; unfold R32; omega, fun c => absurd c (by rw [e2]; omega), fun _ => ?_⟩⟩⟩
      rw [e]
      refine ⟨fun c => ⟨by unfold R64; omega, ?_⟩, fun c => no (fun ok => absurd (ok.1 n (by omega)) (by omega))⟩
      rw [es]
      refine ih (n + 1) (by omega) (fun p hp => ?_)
      by_cases y : p = n
      · rw [y]; exact c
      · exact fl p (by omega)
  exact S178_69_83_0 (L 8 0 (by omega) (fun q hq => absurd hq (Nat.not_lt_zero q)))
theorem od_83 {h : HP} (i : Inv h) : (((h 83 1) ≠ (-1) → ((8 ≤ (h 83 2) → Wp X 2 178 0 [vr 69, vr 83, vu, vu, vu] [] h (fun v h' => Wp X 3 15 55 [vr 6, vi 1, vr 83] (psh v []) h' (AgP X 2 108 [vr 89, vi 1, vu, vu, vu, vu]))) ∧ ((h 83 2) < 8 → AgP X 2 108 [vr 89, vi 1, vu, vu, vu, vu] (some (vi (-12))) (upd2 h 6 10 2)))) ∧ ((h 83 1) = (-1) → AgP X 2 108 [vr 89, vi 1, vu, vu, vu, vu] (some (vi (-11))) (upd2 h 6 10 1))) := by
  have sh := sh_of_83 i
  have s1 := sh.1
  have s2 := sh.2.1
  refine ⟨fun q1 => ?_, fun q1 => ⟨-11, rfl, T108_89_0 _ ?_⟩⟩
  · have hf : 0 ≤ h 90 1 := by omega
    have e2 := (sh.2.2.2.2.2 hf).1
    rw [e2]
    refine ⟨fun q2 => (K178_83 i hf q2).mono fun v h1 _ f => ?_, fun q2 => ⟨-12, rfl, T108_89_0 _ ?_⟩⟩
    · obtain ⟨f1, F, e0, n0⟩ := f
      rcases f1 with ⟨rfl, ok⟩ | ⟨rfl, ok⟩
      · exact S15_6_55 _ _ _ _ ⟨fun c => absurd c (by decide), fun _ => ⟨1, rfl, M108_83 i hf q2 F e0 n0 (fun _ => rfl) (fun c => absurd ok c)⟩⟩
      · exact S15_6_55 _ _ _ _ ⟨fun _ => ⟨-3, rfl, M108_83 i hf q2 F e0 n0 (fun c => absurd c ok) (fun _ => rfl)⟩, fun c => absurd rfl c⟩
    · rw [upd2_ne (a := 6) (b := 90) (by decide), upd2_ne (a := 6) (b := 91) (by decide)]
      exact ⟨fun c => absurd c (by omega), fun _ => ⟨fun c => absurd c (by omega), fun _ => ⟨by omega, fun _ => ⟨fun c => absurd c (by omega), fun _ => ⟨rfl, fnd i (by omega)⟩⟩, fun c => absurd c (by omega)⟩⟩⟩
  · rw [upd2_ne (a := 6) (b := 90) (by decide), upd2_ne (a := 6) (b := 91) (by decide)]
    exact ⟨fun c => absurd c (by omega), fun _ => ⟨fun c => absurd c (by omega), fun _ => ⟨by omega, fun c => absurd c (by omega), fun _ => ⟨rfl, fnd i (by omega)⟩⟩⟩⟩
theorem M108_85 {h h1 : HP} (i : Inv h) (hf : 0 ≤ h 90 2) (h8 : 8 ≤ h 91 2) (F0 : Fr (fun a j => a = 70 ∧ 0 ≤ j ∧ j < 8) h h1) (e0 : odok h 2 → ∀ j : Nat, j < 8 → h1 70 j = od h 2 j) (n0 : ¬ odok h 2 → h1 = h) {a : Int} (ha1 : odok h 2 → a = 1) (ha0 : ¬ odok h 2 → a = -3) : Wp X 2 108 0 [vr 89, vi 2, vu, vu, vu, vu] [] h1 (fun r2 h2 => r2 = some (vi a) ∧ Inv h2) := by
  have sh := sh_of_85 i
  have it := sh.2.2.2.2.2 hf
  have h60 := sh.2.2.2.2.1
  have e90 : h1 90 2 = h 90 2 := F0 _ _ (by omega)
  have e91 : h1 91 2 = h 91 2 := F0 _ _ (by omega)
  have hR : ∀ j : Nat, j < 8 → R32 (od h 2 j) := fun j hj => (it.2 j (by omega) (by omega)).2
  have e92 : ∀ n : Nat, n < 8 → h1 92 (60 * 2 + (n : Int)) = od h 2 n := fun n hn => F0 _ _ (by omega)
  have wr : odok h 2 → ∀ (k n : Nat) (h2 : HP) (z2 z4 : aV), n + k = 8 → Fr (fun a j => a = 111 ∧ 0 ≤ j ∧ j < 8) h1 h2 → (∀ q : Nat, q < n → h2 111 q = od h 2 q) → Wp X 2 108 125 [vr 89, vi 2, z2, vu, z4, vi n] [] h2 (fun r2 h2 => r2 = some (vi a) ∧ Inv h2) := by
    intro ok k
    induction k with
    | zero =>
      intro n h2 z2 z4 hn F2 w
      refine S108_89_125 _ _ _ _ ⟨fun _ => ⟨by rw [ha1 ok], ?_⟩, fun c => absurd c (by omega)⟩
      refine od_inv i ok ((F0.mo fun a j c => by omega).tr (F2.mo fun a j c => by omega)) (fun j hj => ?_) (fun j hj => w j (by omega))
      exact (F2 _ _ (by omega)).trans (e0 ok j hj)
    | succ k ih =>
      intro n h2 z2 z4 hn F2 w
      have e : h2 92 (60 * 2 + (n : Int)) = od h 2 n := (F2 _ _ (by omega)).trans (e92 n (by omega))
      refine S108_89_125 _ _ _ _ ⟨fun c => absurd c (by omega), fun _ => ⟨by unfold R32; omega, by unfold R32; omega, by omega, by omega, ?_⟩⟩
      rw [e]
      refine ih (n + 1) _ _ _ (by omega) (F2.up ⟨rfl, by omega, by omega⟩) (fun q hq => ?_)
      rw [upd2_at]
      by_cases y : q = n
      · rw [if_pos (by omega), y]
      · rw [if_neg (by omega)]; exact w q (by omega)
  have L : ∀ (k n : Nat) (x4 : Int), n + k = 8 → ((x4 = 1 ∧ ∀ q : Nat, q < n → 0 ≤ od h 2 q) ∨ (x4 = 0 ∧ ¬ ∀ q : Nat, q < n → 0 ≤ od h 2 q)) → Wp X 2 108 50 [vr 89, vi 2, vl (su (od h 2) n), vu, vi x4, vi n] [] h1 (fun r2 h2 => r2 = some (vi a) ∧ Inv h2) := by
    intro k
    induction k with
    | zero =>
      intro n x4 hn fl
      have hn : n = 8 := by omega
      subst hn
      have no : ¬ odok h 2 → (some (vi (-3)) = some (vi a) ∧ Inv h1) := fun q => ⟨by rw [ha0 q], by rw [n0 q]; exact i⟩
      refine T108_89_50 _ _ _ _ ⟨fun _ => ⟨fun c => no (fun ok => ?_), fun c => ⟨fun c2 => ?_, fun c2 => no (fun ok => c2 ok.2)⟩⟩, fun c => absurd c (by omega)⟩
      · rcases fl with ⟨q, _⟩ | ⟨_, q⟩
        · omega
        · exact q ok.1
      · rcases fl with ⟨_, q⟩ | ⟨q, _⟩
        · exact wr ⟨q, c2⟩ 8 0 h1 _ _ (by omega) Fr.rf (fun q hq => absurd hq (Nat.not_lt_zero q))
        · omega
    | succ k ih =>
      intro n x4 hn fl
      have e := e92 n (by omega)
      have sr := su_R (f := od h 2) n (fun j hj => hR j (by omega))
      have r := hR n (by omega)
      unfold R32 at r
      have es : su (od h 2) n + od h 2 n = su (od h 2) (n + 1) := rfl
      refine T108_89_50 _ _ _ _ ⟨fun c => absurd c (by omega), fun _ => ⟨fun c => ⟨by unfold R32; omega, by unfold R32; omega, by omega, ?_⟩, fun c => ⟨by unfold R32; omega, by unfold R32; omega, by omega, ?_⟩⟩⟩
      · rw [e]
        refine ⟨by unfold R64; omega, by unfold R32; omega, ?_⟩
        rw [es]
        refine ih (n + 1) 0 (by omega) (.inr ⟨rfl, fun w => ?_⟩)
        rcases fl with ⟨q, _⟩ | ⟨_, q⟩
        · omega
        · exact q (fun p hp => w p (by omega))
      · rw [e]
        refine ⟨fun c2 => ⟨by unfold R64; omega, by unfold R32; omega, ?_⟩, fun c2 => ⟨by unfold R64; omega, by unfold R32; omega, ?_⟩⟩
        · rw [es]
          exact ih (n + 1) 0 (by omega) (.inr ⟨rfl, fun w => absurd (w n (by omega)) (by omega)⟩)
        · rw [es]
          refine ih (n + 1) 1 (by omega) (.inl ⟨rfl, fun p hp => ?_⟩)
          rcases fl with ⟨_, q⟩ | ⟨q, _⟩
          · by_cases y : p = n
            · rw [y]; exact c2
            · exact q p (by omega)
          · omega
  refine T108_89_0 _ ?_
  rw [e90, e91]
  exact ⟨fun c => absurd c (by omega), fun _ => ⟨fun c => absurd c (by omega), fun _ => ⟨by omega, fun _ => ⟨fun _ => L 8 0 1 (by omega) (.inl ⟨rfl, fun q hq => absurd hq (Nat.not_lt_zero q)⟩), fun c => absurd c (by omega)⟩, fun c => absurd c (by omega)⟩⟩⟩
theorem K178_85 {h : HP} (i : Inv h) (hf : 0 ≤ h 90 2) (h8 : 8 ≤ h 91 2) : Wp X 2 178 0 [vr 69, vr 85, vu, vu, vu] [] h (fun v h1 => ((v = some (vi 1) ∧ odok h 2) ∨ (v = some (vi 0) ∧ ¬ odok h 2)) ∧ Fr (fun a j => a = 70 ∧ 0 ≤ j ∧ j < 8) h h1 ∧ (odok h 2 → ∀ j : Nat, j < 8 → h1 70 j = od h 2 j) ∧ (¬ odok h 2 → h1 = h)) := by
  have sh := sh_of_85 i
  have it := sh.2.2.2.2.2 hf
  have h60 := sh.2.2.2.2.1
  have hR : ∀ j : Nat, j < 8 → R32 (od h 2 j) := fun j hj => (it.2 j (by omega) (by omega)).2
  have hI : ∀ j : Nat, j < 8 → h 86 j = od h 2 j := fun j hj => (it.2 j (by omega) (by omega)).1
  have e2 := it.1
  have no : ¬ odok h 2 → (((some (vi 0) = some (vi 1) ∧ odok h 2) ∨ (some (vi 0) = some (vi 0) ∧ ¬ odok h 2)) ∧ Fr (fun a j => a = 70 ∧ 0 ≤ j ∧ j < 8) h h ∧ (odok h 2 → ∀ j : Nat, j < 8 → h 70 j = od h 2 j) ∧ (¬ odok h 2 → h = h)) := fun q => ⟨.inr ⟨rfl, q⟩, Fr.rf, fun c => absurd c q, fun _ => rfl⟩
  have wr : odok h 2 → ∀ (k n : Nat) (h1 : HP) (z2 : aV), n + k = 8 → Fr (fun a j => a = 70 ∧ 0 ≤ j ∧ j < 8) h h1 → (∀ q : Nat, q < n → h1 70 q = od h 2 q) → Wp X 2 178 52 [vr 69, vr 85, z2, vu, vi n] [] h1 (fun v h1 => ((v = some (vi 1) ∧ odok h 2) ∨ (v = some (vi 0) ∧ ¬ odok h 2)) ∧ Fr (fun a j => a = 70 ∧ 0 ≤ j ∧ j < 8) h h1 ∧ (odok h 2 → ∀ j : Nat, j < 8 → h1 70 j = od h 2 j) ∧ (¬ odok h 2 → h1 = h)) := by
    intro ok k
    induction k with
    | zero =>
      intro n h1 z2 hn F w
      exact S178_69_85_52 _ _ ⟨fun _ => ⟨.inl ⟨rfl, ok⟩, F, fun _ j hj => w j (by omega), fun c => absurd ok c⟩, fun c => absurd c (by omega)⟩
    | succ k ih =>
      intro n h1 z2 hn F w
      have e : h1 86 (n : Int) = od h 2 n := (F _ _ (by omega)).trans (hI n (by omega))
      have e2' : h1 85 2 = h 91 2 := (F _ _ (by omega)).trans e2
      refine S178_69_85_52 _ _ ⟨fun c => absurd c (by omega), fun _ => ⟨fun c => absurd c (by omega), fun _ => ⟨by rw [e2']; unfold R32; omega, fun c => absurd c (by rw [e2']; omega), fun _ => ?_⟩⟩⟩
      rw [e]
      refine ih (n + 1) _ _ (by omega) (F.up ⟨rfl, by omega, by omega⟩) (fun q hq => ?_)
      rw [upd2_at]
      by_cases y : q = n
      · rw [if_pos (by omega), y]
      · rw [if_neg (by omega)]; exact w q (by omega)
  have L : ∀ (k n : Nat), n + k = 8 → (∀ q : Nat, q < n → 0 ≤ od h 2 q) → Wp X 2 178 5 [vr 69, vr 85, vl (su (od h 2) n), vu, vi n] [] h (fun v h1 => ((v = some (vi 1) ∧ odok h 2) ∨ (v = some (vi 0) ∧ ¬ odok h 2)) ∧ Fr (fun a j => a = 70 ∧ 0 ≤ j ∧ j < 8) h h1 ∧ (odok h 2 → ∀ j : Nat, j < 8 → h1 70 j = od h 2 j) ∧ (¬ odok h 2 → h1 = h)) := by
    intro k
    induction k with
    | zero =>
      intro n hn fl
      have hn : n = 8 := by omega
      subst hn
      exact S178_69_85_5 _ _ ⟨fun _ => ⟨fun c => wr ⟨fl, Eq.mp lcp_e c⟩ 8 0 h _ (by omega) Fr.rf (fun q hq => absurd hq (Nat.not_lt_zero q)), fun c => no (fun ok => Eq.mp lcp_n c ok.2)⟩, fun c => absurd c (by omega)⟩
    | succ k ih =>
      intro n hn fl
      have e := hI n (by omega)
      have sr := su_R (f := od h 2) n (fun j hj => hR j (by omega))
      have r := hR n (by omega)
      unfold R32 at r
      have es : su (od h 2) n + od h 2 n = su (od h 2) (n + 1) := rfl
      refine S178_69_85_5 _ _ ⟨fun c => absurd c (by omega), fun _ => ⟨fun c => absurd c (by omega), fun _ => ⟨by rw [e2]; unfold R32; omega, fun c => absurd c (by rw [e2]; omega), fun _ => ?_⟩⟩⟩
      rw [e]
      refine ⟨fun c => ⟨by unfold R64; omega, ?_⟩, fun c => no (fun ok => absurd (ok.1 n (by omega)) (by omega))⟩
      rw [es]
      refine ih (n + 1) (by omega) (fun p hp => ?_)
      by_cases y : p = n
      · rw [y]; exact c
      · exact fl p (by omega)
  exact S178_69_85_0 (L 8 0 (by omega) (fun q hq => absurd hq (Nat.not_lt_zero q)))
theorem od_85 {h : HP} (i : Inv h) : (((h 85 1) ≠ (-1) → ((8 ≤ (h 85 2) → Wp X 2 178 0 [vr 69, vr 85, vu, vu, vu] [] h (fun v h' => Wp X 3 15 55 [vr 6, vi 2, vr 85] (psh v []) h' (AgP X 2 108 [vr 89, vi 2, vu, vu, vu, vu]))) ∧ ((h 85 2) < 8 → AgP X 2 108 [vr 89, vi 2, vu, vu, vu, vu] (some (vi (-12))) (upd2 h 6 10 2)))) ∧ ((h 85 1) = (-1) → AgP X 2 108 [vr 89, vi 2, vu, vu, vu, vu] (some (vi (-11))) (upd2 h 6 10 1))) := by
  have sh := sh_of_85 i
  have s1 := sh.1
  have s2 := sh.2.1
  refine ⟨fun q1 => ?_, fun q1 => ⟨-11, rfl, T108_89_0 _ ?_⟩⟩
  · have hf : 0 ≤ h 90 2 := by omega
    have e2 := (sh.2.2.2.2.2 hf).1
    rw [e2]
    refine ⟨fun q2 => (K178_85 i hf q2).mono fun v h1 _ f => ?_, fun q2 => ⟨-12, rfl, T108_89_0 _ ?_⟩⟩
    · obtain ⟨f1, F, e0, n0⟩ := f
      rcases f1 with ⟨rfl, ok⟩ | ⟨rfl, ok⟩
      · exact S15_6_55 _ _ _ _ ⟨fun c => absurd c (by decide), fun _ => ⟨1, rfl, M108_85 i hf q2 F e0 n0 (fun _ => rfl) (fun c => absurd ok c)⟩⟩
      · exact S15_6_55 _ _ _ _ ⟨fun _ => ⟨-3, rfl, M108_85 i hf q2 F e0 n0 (fun c => absurd c ok) (fun _ => rfl)⟩, fun c => absurd rfl c⟩
    · rw [upd2_ne (a := 6) (b := 90) (by decide), upd2_ne (a := 6) (b := 91) (by decide)]
      exact ⟨fun c => absurd c (by omega), fun _ => ⟨fun c => absurd c (by omega), fun _ => ⟨by omega, fun _ => ⟨fun c => absurd c (by omega), fun _ => ⟨rfl, fnd i (by omega)⟩⟩, fun c => absurd c (by omega)⟩⟩⟩
  · rw [upd2_ne (a := 6) (b := 90) (by decide), upd2_ne (a := 6) (b := 91) (by decide)]
    exact ⟨fun c => absurd c (by omega), fun _ => ⟨fun c => absurd c (by omega), fun _ => ⟨by omega, fun c => absurd c (by omega), fun _ => ⟨rfl, fnd i (by omega)⟩⟩⟩⟩
theorem M108_87 {h h1 : HP} (i : Inv h) (hf : 0 ≤ h 90 3) (h8 : 8 ≤ h 91 3) (F0 : Fr (fun a j => a = 70 ∧ 0 ≤ j ∧ j < 8) h h1) (e0 : odok h 3 → ∀ j : Nat, j < 8 → h1 70 j = od h 3 j) (n0 : ¬ odok h 3 → h1 = h) {a : Int} (ha1 : odok h 3 → a = 1) (ha0 : ¬ odok h 3 → a = -3) : Wp X 2 108 0 [vr 89, vi 3, vu, vu, vu, vu] [] h1 (fun r2 h2 => r2 = some (vi a) ∧ Inv h2) := by
  have sh := sh_of_87 i
  have it := sh.2.2.2.2.2 hf
  have h60 := sh.2.2.2.2.1
  have e90 : h1 90 3 = h 90 3 := F0 _ _ (by omega)
  have e91 : h1 91 3 = h 91 3 := F0 _ _ (by omega)
  have hR : ∀ j : Nat, j < 8 → R32 (od h 3 j) := fun j hj => (it.2 j (by omega) (by omega)).2
  have e92 : ∀ n : Nat, n < 8 → h1 92 (60 * 3 + (n : Int)) = od h 3 n := fun n hn => F0 _ _ (by omega)
  have wr : odok h 3 → ∀ (k n : Nat) (h2 : HP) (z2 z4 : aV), n + k = 8 → Fr (fun a j => a = 111 ∧ 0 ≤ j ∧ j < 8) h1 h2 → (∀ q : Nat, q < n → h2 111 q = od h 3 q) → Wp X 2 108 125 [vr 89, vi 3, z2, vu, z4, vi n] [] h2 (fun r2 h2 => r2 = some (vi a) ∧ Inv h2) := by
    intro ok k
    induction k with
    | zero =>
      intro n h2 z2 z4 hn F2 w
      refine S108_89_125 _ _ _ _ ⟨fun _ => ⟨by rw [ha1 ok], ?_⟩, fun c => absurd c (by omega)⟩
      refine od_inv i ok ((F0.mo fun a j c => by omega).tr (F2.mo fun a j c => by omega)) (fun j hj => ?_) (fun j hj => w j (by omega))
      exact (F2 _ _ (by omega)).trans (e0 ok j hj)
    | succ k ih =>
      intro n h2 z2 z4 hn F2 w
      have e : h2 92 (60 * 3 + (n : Int)) = od h 3 n := (F2 _ _ (by omega)).trans (e92 n (by omega))
      refine S108_89_125 _ _ _ _ ⟨fun c => absurd c (by omega), fun _ => ⟨by unfold R32; omega, by unfold R32; omega, by omega, by omega, ?_⟩⟩
      rw [e]
      refine ih (n + 1) _ _ _ (by omega) (F2.up ⟨rfl, by omega, by omega⟩) (fun q hq => ?_)
      rw [upd2_at]
      by_cases y : q = n
      · rw [if_pos (by omega), y]
      · rw [if_neg (by omega)]; exact w q (by omega)
  have L : ∀ (k n : Nat) (x4 : Int), n + k = 8 → ((x4 = 1 ∧ ∀ q : Nat, q < n → 0 ≤ od h 3 q) ∨ (x4 = 0 ∧ ¬ ∀ q : Nat, q < n → 0 ≤ od h 3 q)) → Wp X 2 108 50 [vr 89, vi 3, vl (su (od h 3) n), vu, vi x4, vi n] [] h1 (fun r2 h2 => r2 = some (vi a) ∧ Inv h2) := by
    intro k
    induction k with
    | zero =>
      intro n x4 hn fl
      have hn : n = 8 := by omega
      subst hn
      have no : ¬ odok h 3 → (some (vi (-3)) = some (vi a) ∧ Inv h1) := fun q => ⟨by rw [ha0 q], by rw [n0 q]; exact i⟩
      refine T108_89_50 _ _ _ _ ⟨fun _ => ⟨fun c => no (fun ok => ?_), fun c => ⟨fun c2 => ?_, fun c2 => no (fun ok => c2 ok.2)⟩⟩, fun c => absurd c (by omega)⟩
      · rcases fl with ⟨q, _⟩ | ⟨_, q⟩
        · omega
        · exact q ok.1
      · rcases fl with ⟨_, q⟩ | ⟨q, _⟩
        · exact wr ⟨q, c2⟩ 8 0 h1 _ _ (by omega) Fr.rf (fun q hq => absurd hq (Nat.not_lt_zero q))
        · omega
    | succ k ih =>
      intro n x4 hn fl
      have e := e92 n (by omega)
      have sr := su_R (f := od h 3) n (fun j hj => hR j (by omega))
      have r := hR n (by omega)
      unfold R32 at r
      have es : su (od h 3) n + od h 3 n = su (od h 3) (n + 1) := rfl
      refine T108_89_50 _ _ _ _ ⟨fun c => absurd c (by omega), fun _ => ⟨fun c => ⟨by unfold R32; omega, by unfold R32; omega, by omega, ?_⟩, fun c => ⟨by unfold R32; omega, by unfold R32; omega, by omega, ?_⟩⟩⟩
      · rw [e]
        refine ⟨by unfold R64; omega, by unfold R32; omega, ?_⟩
        rw [es]
        refine ih (n + 1) 0 (by omega) (.inr ⟨rfl, fun w => ?_⟩)
        rcases fl with ⟨q, _⟩ | ⟨_, q⟩
        · omega
        · exact q (fun p hp => w p (by omega))
      · rw [e]
        refine ⟨fun c2 => ⟨by unfold R64; omega, by unfold R32; omega, ?_⟩, fun c2 => ⟨by unfold R64; omega, by unfold R32; omega, ?_⟩⟩
        · rw [es]
          exact ih (n + 1) 0 (by omega) (.inr ⟨rfl, fun w => absurd (w n (by omega)) (by omega)⟩)
        · rw [es]
          refine ih (n + 1) 1 (by omega) (.inl ⟨rfl, fun p hp => ?_⟩)
          rcases fl with ⟨_, q⟩ | ⟨q, _⟩
          · by_cases y : p = n
            · rw [y]; exact c2
            · exact q p (by omega)
          · omega
  refine T108_89_0 _ ?_
  rw [e90, e91]
  exact ⟨fun c => absurd c (by omega), fun _ => ⟨fun c => absurd c (by omega), fun _ => ⟨by omega, fun _ => ⟨fun _ => L 8 0 1 (by omega) (.inl ⟨rfl, fun q hq => absurd hq (Nat.not_lt_zero q)⟩), fun c => absurd c (by omega)⟩, fun c => absurd c (by omega)⟩⟩⟩
theorem K178_87 {h : HP} (i : Inv h) (hf : 0 ≤ h 90 3) (h8 : 8 ≤ h 91 3) : Wp X 2 178 0 [vr 69, vr 87, vu, vu, vu] [] h (fun v h1 => ((v = some (vi 1) ∧ odok h 3) ∨ (v = some (vi 0) ∧ ¬ odok h 3)) ∧ Fr (fun a j => a = 70 ∧ 0 ≤ j ∧ j < 8) h h1 ∧ (odok h 3 → ∀ j : Nat, j < 8 → h1 70 j = od h 3 j) ∧ (¬ odok h 3 → h1 = h)) := by
  have sh := sh_of_87 i
  have it := sh.2.2.2.2.2 hf
  have h60 := sh.2.2.2.2.1
  have hR : ∀ j : Nat, j < 8 → R32 (od h 3 j) := fun j hj => (it.2 j (by omega) (by omega)).2
  have hI : ∀ j : Nat, j < 8 → h 88 j = od h 3 j := fun j hj => (it.2 j (by omega) (by omega)).1
  have e2 := it.1
  have no : ¬ odok h 3 → (((some (vi 0) = some (vi 1) ∧ odok h 3) ∨ (some (vi 0) = some (vi 0) ∧ ¬ odok h 3)) ∧ Fr (fun a j => a = 70 ∧ 0 ≤ j ∧ j < 8) h h ∧ (odok h 3 → ∀ j : Nat, j < 8 → h 70 j = od h 3 j) ∧ (¬ odok h 3 → h = h)) := fun q => ⟨.inr ⟨rfl, q⟩, Fr.rf, fun c => absurd c q, fun _ => rfl⟩
  have wr : odok h 3 → ∀ (k n : Nat) (h1 : HP) (z2 : aV), n + k = 8 → Fr (fun a j => a = 70 ∧ 0 ≤ j ∧ j < 8) h h1 → (∀ q : Nat, q < n → h1 70 q = od h 3 q) → Wp X 2 178 52 [vr 69, vr 87, z2, vu, vi n] [] h1 (fun v h1 => ((v = some (vi 1) ∧ odok h 3) ∨ (v = some (vi 0) ∧ ¬ odok h 3)) ∧ Fr (fun a j => a = 70 ∧ 0 ≤ j ∧ j < 8) h h1 ∧ (odok h 3 → ∀ j : Nat, j < 8 → h1 70 j = od h 3 j) ∧ (¬ odok h 3 → h1 = h)) := by
    intro ok k
    induction k with
    | zero =>
      intro n h1 z2 hn F w
      exact S178_69_87_52 _ _ ⟨fun _ => ⟨.inl ⟨rfl, ok⟩, F, fun _ j hj => w j (by omega), fun c => absurd ok c⟩, fun c => absurd c (by omega)⟩
    | succ k ih =>
      intro n h1 z2 hn F w
      have e : h1 88 (n : Int) = od h 3 n := (F _ _ (by omega)).trans (hI n (by omega))
      have e2' : h1 87 2 = h 91 3 := (F _ _ (by omega)).trans e2
      refine S178_69_87_52 _ _ ⟨fun c => absurd c (by omega), fun _ => ⟨fun c => absurd c (by omega), fun _ => ⟨by rw [e2']; unfold R32; omega, fun c => absurd c (by rw [e2']; omega), fun _ => ?_⟩⟩⟩
      rw [e]
      refine ih (n + 1) _ _ (by omega) (F.up ⟨rfl, by omega, by omega⟩) (fun q hq => ?_)
      rw [upd2_at]
      by_cases y : q = n
      · rw [if_pos (by omega), y]
      · rw [if_neg (by omega)]; exact w q (by omega)
  have L : ∀ (k n : Nat), n + k = 8 → (∀ q : Nat, q < n → 0 ≤ od h 3 q) → Wp X 2 178 5 [vr 69, vr 87, vl (su (od h 3) n), vu, vi n] [] h (fun v h1 => ((v = some (vi 1) ∧ odok h 3) ∨ (v = some (vi 0) ∧ ¬ odok h 3)) ∧ Fr (fun a j => a = 70 ∧ 0 ≤ j ∧ j < 8) h h1 ∧ (odok h 3 → ∀ j : Nat, j < 8 → h1 70 j = od h 3 j) ∧ (¬ odok h 3 → h1 = h)) := by
    intro k
    induction k with
    | zero =>
      intro n hn fl
      have hn : n = 8 := by omega
      subst hn
      exact S178_69_87_5 _ _ ⟨fun _ => ⟨fun c => wr ⟨fl, Eq.mp lcp_e c⟩ 8 0 h _ (by omega) Fr.rf (fun q hq => absurd hq (Nat.not_lt_zero q)), fun c => no (fun ok => Eq.mp lcp_n c ok.2)⟩, fun c => absurd c (by omega)⟩
    | succ k ih =>
      intro n hn fl
      have e := hI n (by omega)
      have sr := su_R (f := od h 3) n (fun j hj => hR j (by omega))
      have r := hR n (by omega)
      unfold R32 at r
      have es : su (od h 3) n + od h 3 n = su (od h 3) (n + 1) := rfl
      refine S178_69_87_5 _ _ ⟨fun c => absurd c (by omega), fun _ => ⟨fun c => absurd c (by omega), fun _ => ⟨by rw [e2]; unfold R32; omega, fun c => absurd c (by rw [e2]; omega), fun _ => ?_⟩⟩⟩
      rw [e]
      refine ⟨fun c => ⟨by unfold R64; omega, ?_⟩, fun c => no (fun ok => absurd (ok.1 n (by omega)) (by omega))⟩
      rw [es]
      refine ih (n + 1) (by omega) (fun p hp => ?_)
      by_cases y : p = n
      · rw [y]; exact c
      · exact fl p (by omega)
  exact S178_69_87_0 (L 8 0 (by omega) (fun q hq => absurd hq (Nat.not_lt_zero q)))
theorem od_87 {h : HP} (i : Inv h) : (((h 87 1) ≠ (-1) → ((8 ≤ (h 87 2) → Wp X 2 178 0 [vr 69, vr 87, vu, vu, vu] [] h (fun v h' => Wp X 3 15 55 [vr 6, vi 3, vr 87] (psh v []) h' (AgP X 2 108 [vr 89, vi 3, vu, vu, vu, vu]))) ∧ ((h 87 2) < 8 → AgP X 2 108 [vr 89, vi 3, vu, vu, vu, vu] (some (vi (-12))) (upd2 h 6 10 2)))) ∧ ((h 87 1) = (-1) → AgP X 2 108 [vr 89, vi 3, vu, vu, vu, vu] (some (vi (-11))) (upd2 h 6 10 1))) := by
  have sh := sh_of_87 i
  have s1 := sh.1
  have s2 := sh.2.1
  refine ⟨fun q1 => ?_, fun q1 => ⟨-11, rfl, T108_89_0 _ ?_⟩⟩
  · have hf : 0 ≤ h 90 3 := by omega
    have e2 := (sh.2.2.2.2.2 hf).1
    rw [e2]
    refine ⟨fun q2 => (K178_87 i hf q2).mono fun v h1 _ f => ?_, fun q2 => ⟨-12, rfl, T108_89_0 _ ?_⟩⟩
    · obtain ⟨f1, F, e0, n0⟩ := f
      rcases f1 with ⟨rfl, ok⟩ | ⟨rfl, ok⟩
      · exact S15_6_55 _ _ _ _ ⟨fun c => absurd c (by decide), fun _ => ⟨1, rfl, M108_87 i hf q2 F e0 n0 (fun _ => rfl) (fun c => absurd ok c)⟩⟩
      · exact S15_6_55 _ _ _ _ ⟨fun _ => ⟨-3, rfl, M108_87 i hf q2 F e0 n0 (fun c => absurd c ok) (fun _ => rfl)⟩, fun c => absurd rfl c⟩
    · rw [upd2_ne (a := 6) (b := 90) (by decide), upd2_ne (a := 6) (b := 91) (by decide)]
      exact ⟨fun c => absurd c (by omega), fun _ => ⟨fun c => absurd c (by omega), fun _ => ⟨by omega, fun _ => ⟨fun c => absurd c (by omega), fun _ => ⟨rfl, fnd i (by omega)⟩⟩, fun c => absurd c (by omega)⟩⟩⟩
  · rw [upd2_ne (a := 6) (b := 90) (by decide), upd2_ne (a := 6) (b := 91) (by decide)]
    exact ⟨fun c => absurd c (by omega), fun _ => ⟨fun c => absurd c (by omega), fun _ => ⟨by omega, fun c => absurd c (by omega), fun _ => ⟨rfl, fnd i (by omega)⟩⟩⟩⟩
theorem a15 (y1 : Int) : Ag X Inv 3 15 2 108 vi [vr 6, vi y1, vu] [vr 89, vi y1, vu, vu, vu, vu] := by
  intro h i
  have bad : ¬ (0 ≤ y1 ∧ y1 ≤ 3) → AgP X 2 108 [vr 89, vi y1, vu, vu, vu, vu] (some (vi (-2))) h := fun q => ⟨-2, rfl, T108_89_0 _ ⟨fun _ => ⟨rfl, i⟩, fun a1 => ⟨fun _ => ⟨rfl, i⟩, fun a2 => absurd ⟨a1, a2⟩ q⟩⟩⟩
  show Wp X 3 15 0 [vr 6, vi y1, vu] [] h (AgP X 2 108 [vr 89, vi y1, vu, vu, vu, vu])
  refine S15_6_0 _ ⟨fun q => bad (by omega), fun a1 => ⟨fun a2 => ⟨fun e => ?_, fun e => ?_, fun e => ?_, fun e => ?_⟩, fun q => bad (by omega)⟩⟩
  · subst e; exact od_81 i
  · subst e; exact od_83 i
  · subst e; exact od_85 i
  · subst e; exact od_87 i
end
