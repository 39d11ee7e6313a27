-- ===== the class's lookBack() =====
theorem vlu_cg {tp tv tt tp' tv' tt' : Int → Int} {as k : Int} : ∀ {n : Nat}, (∀ i : Nat, i < n → tp i = tp' i ∧ tv i = tv' i ∧ tt i = tt' i) → vlu tp tv tt as n k = vlu tp' tv' tt' as n k
  | 0, _ => rfl
  | n + 1, H => by
    have q := H n (by omega)
    unfold vlu
    rw [q.1, q.2.1, q.2.2, vlu_cg (n := n) (fun i hi => H i (by omega))]
/-- the class's tellings are well -/
def Cok (h : HP) : Prop := (0 ≤ h 8 8 ∧ h 8 8 ≤ 20 ∧ 0 ≤ h 8 7 ∧ h 8 7 ≤ 100) ∧ (∀ i : Nat, (i : Int) < h 8 7 → 0 ≤ h 9 i ∧ h 9 i < h 8 8 ∧ 0 ≤ h 10 i ∧ h 10 i < 5 ∧ -1 ≤ h 11 i ∧ h 11 i ≤ 999) ∧ ∀ i j : Nat, i ≤ j → (j : Int) < h 8 7 → h 12 i ≤ h 12 j
def CVL (h : HP) (as : Int) : Int → Int := vlu (fun i => 5 * h 9 i + h 10 i) (h 11) (h 12) as (h 8 7).toNat
/-- what the class holds of values -/
def CV (V : Int → Int) (G : Int) (h : HP) : Prop := (∀ g : Int, 0 ≤ g → g < G → (∀ p : Int, 0 ≤ p → p < 5 → h (14 + Int.toNat g) p = V (5 * g + p)) ∧ h 34 g = (if cnp V g 5 = 0 then -1 else mnV V g) ∧ h 35 g = spV V g) ∧ h 8 9 = su (fun g => cnp V g 5) G.toNat
def fK (a : Nat) (j : Int) : Prop := (14 ≤ a ∧ a ≤ 35) ∨ (a = 8 ∧ j = 9)
theorem CVL_ok {h : HP} {as : Int} (C : Cok h) : Vok (CVL h as) := vlu_ok fun i hi => by
  have := C.2.1 i (by have := C.1; omega)
  omega
section
variable {X : Nat × (Int → Int)} {Q : bQ} {h0 : HP}
theorem L156 {g : Int} (hg : 0 ≤ g ∧ g < 20) : ∀ (k : Nat) (x : Int) (h : HP), 0 ≤ x → x + k = 5 → (∀ p, 0 ≤ p → p < x → h (14 + Int.toNat g) p = -1) → Wp X 0 156 13 [vr 8, vi g, vi x] [] h (fun r h' => r = none ∧ Fr (fun a j => a = 14 + Int.toNat g ∨ ((a = 34 ∨ a = 35) ∧ j = g)) h h' ∧ (∀ p, 0 ≤ p → p < 5 → h' (14 + Int.toNat g) p = -1) ∧ h' 34 g = -1 ∧ h' 35 g = 0)
  | 0, x, h, hx, hk, V => by
    refine S156_8_13 g x ⟨fun _ => ⟨hg, rfl, (Fr.rf.up (.inr ⟨.inl rfl, rfl⟩)).up (.inr ⟨.inr rfl, rfl⟩), fun p a c => ?_, ?_, upd2_s⟩, fun q => absurd q (by omega)⟩
    · rw [upd2_ne (by omega), upd2_ne (by omega)]; exact V p a (by omega)
    · rw [upd2_ne (by decide), upd2_s]
  | k + 1, x, h, hx, hk, V => by
    refine S156_8_13 g x ⟨fun q => absurd q (by omega), fun _ => ⟨hg, ⟨hx, by omega⟩, (L156 hg k (x + 1) _ (by omega) (by omega) (fun p a c => ?_)).mono fun r h' _ q => ⟨q.1, (Fr.rf.up (.inl rfl)).tr q.2.1, q.2.2⟩⟩⟩
    rw [upd2_at]
    split
    · rfl
    · exact V p a (by omega)
theorem K156 {g : Int} {h : HP} (hg : 0 ≤ g ∧ g < 20) : Wp X 0 156 0 [vr 8, vi g, vu] [] h (fun r h' => r = none ∧ Fr (fun a j => a = 14 + Int.toNat g ∨ ((a = 34 ∨ a = 35) ∧ j = g)) h h' ∧ (∀ p, 0 ≤ p → p < 5 → h' (14 + Int.toNat g) p = -1) ∧ h' 34 g = -1 ∧ h' 35 g = 0) :=
  S156_8_0 g ⟨fun q => absurd q (by omega), fun _ => ⟨fun _ => L156 hg 5 0 h (by omega) rfl (fun p a c => absurd c (by omega)), fun q => absurd q (by omega)⟩⟩
theorem L154a {as : Int} (C : Cok h0) (cont : ∀ h, Fr fK h0 h → (∀ g : Int, 0 ≤ g → g < h0 8 8 → (∀ p, 0 ≤ p → p < 5 → h (14 + Int.toNat g) p = -1) ∧ h 34 g = -1 ∧ h 35 g = 0) → Wp X 2 154 23 [vr 8, vi as, vi 0] [] h Q) : ∀ (k : Nat) (x : Int) (h : HP), 0 ≤ x → x + k = h0 8 8 → Fr fK h0 h → (∀ g : Int, 0 ≤ g → g < x → (∀ p, 0 ≤ p → p < 5 → h (14 + Int.toNat g) p = -1) ∧ h 34 g = -1 ∧ h 35 g = 0) → Wp X 2 154 2 [vr 8, vi as, vi x] [] h Q
  | 0, x, h, hx, hk, F, V => by
    have e8 : h 8 8 = h0 8 8 := F 8 8 (by unfold fK; omega)
    exact S154_8_2 as x ⟨fun _ => cont h F (fun g a c => V g a (by omega)), fun q => absurd q (by omega)⟩
  | k + 1, x, h, hx, hk, F, V => by
    have e8 : h 8 8 = h0 8 8 := F 8 8 (by unfold fK; omega)
    have c1 := C.1
    refine S154_8_2 as x ⟨fun q => absurd q (by omega), fun _ => (K156 ⟨hx, by omega⟩).mono fun r h1 _ q => ?_⟩
    obtain ⟨rfl, q1, q2, q3, q4⟩ := q
    refine S154_8_15 as x ⟨by unfold R32; omega, L154a C cont k (x + 1) h1 (by omega) (by omega) (F.tr (q1.mo fun a j c => by unfold fK; omega)) (fun g a c => ?_)⟩
    by_cases e : g = x
    · rw [e]; exact ⟨q2, q3, q4⟩
    · have v := V g a (by omega)
      refine ⟨fun p a1 c1 => ?_, ?_, ?_⟩
      · rw [q1 _ _ (by omega)]; exact v.1 p a1 c1
      · rw [q1 _ _ (by omega)]; exact v.2.1
      · rw [q1 _ _ (by omega)]; exact v.2.2
theorem L154b {as : Int} (C : Cok h0) (cont : ∀ h, Fr fK h0 h → h 8 9 = 0 → (∀ g : Int, 0 ≤ g → g < h0 8 8 → (∀ p, 0 ≤ p → p < 5 → h (14 + Int.toNat g) p = CVL h0 as (5 * g + p)) ∧ h 34 g = -1 ∧ h 35 g = 0) → Wp X 2 154 76 [vr 8, vi as, vi 0] [] h Q) : ∀ (k n : Nat) (h : HP), (n : Int) + k = h0 8 7 → Fr fK h0 h → (∀ g : Int, 0 ≤ g → g < h0 8 8 → (∀ p, 0 ≤ p → p < 5 → h (14 + Int.toNat g) p = vlu (fun i => 5 * h0 9 i + h0 10 i) (h0 11) (h0 12) as n (5 * g + p)) ∧ h 34 g = -1 ∧ h 35 g = 0) → Wp X 2 154 23 [vr 8, vi as, vi n] [] h Q
  | 0, n, h, hk, F, V => by
    have e8 : h 8 7 = h0 8 7 := F 8 7 (by unfold fK; omega)
    refine S154_8_23 as n ⟨fun _ => cont _ (F.up (.inr ⟨rfl, rfl⟩)) upd2_s (fun g a c => ?_), fun q => absurd q (by omega)⟩
    rw [upd2_ne (by omega), upd2_ne (by omega), upd2_ne (by omega)]
    unfold CVL
    rw [show (h0 8 7).toNat = n by omega]
    exact V g a c
  | k + 1, n, h, hk, F, V => by
    have e7 : h 8 7 = h0 8 7 := F 8 7 (by unfold fK; omega)
    have e8 : h 8 8 = h0 8 8 := F 8 8 (by unfold fK; omega)
    have e9 : h 9 n = h0 9 n := F _ _ (by unfold fK; omega)
    have e10 : h 10 n = h0 10 n := F _ _ (by unfold fK; omega)
    have e11 : h 11 n = h0 11 n := F _ _ (by unfold fK; omega)
    have e12 : h 12 n = h0 12 n := F _ _ (by unfold fK; omega)
    have c1 := C.1
    have c2 := C.2.1 n (by omega)
    refine S154_8_23 as n ⟨fun q => absurd q (by omega), fun _ => ⟨⟨by omega, by omega⟩, fun c => cont _ (F.up (.inr ⟨rfl, rfl⟩)) upd2_s (fun g a c => ?_), fun c => ⟨fun q => absurd q (by omega), fun _ => ⟨fun q => absurd q (by omega), fun _ => ⟨fun q => absurd q (by omega), fun _ => ⟨fun q => absurd q (by omega), fun _ => ⟨⟨by omega, by omega⟩, ?_⟩⟩⟩⟩⟩⟩⟩
    · rw [upd2_ne (by omega), upd2_ne (by omega), upd2_ne (by omega)]
      unfold CVL
      have v := V g a c
      refine ⟨fun p a1 c1 => ?_, v.2⟩
      rw [v.1 p a1 c1]
      exact (vlu_stop (by omega) (fun i a2 c2 => by have := C.2.2 n i a2 (by omega); omega)).symm
    · refine L154b C cont k (n + 1) _ (by omega) (F.up (.inl (by omega))) (fun g a d => ?_)
      have v := V g a d
      have u : (if 5 * h0 9 n + h0 10 n = 5 * g + h0 10 n ∧ h0 12 n ≤ as then (1 : Int) else 0) = (if g = h0 9 n then 1 else 0) := by
        by_cases q : g = h0 9 n
        · rw [if_pos q, if_pos ⟨by omega, by omega⟩]
        · rw [if_neg q, if_neg (by omega)]
      refine ⟨fun p a1 c1 => ?_, ?_, ?_⟩
      · unfold vlu
        by_cases q : g = h0 9 n ∧ p = h0 10 n
        · rw [if_pos ⟨by omega, by omega⟩, ← e9, ← e10, ← e11] at *
          rw [q.1, q.2]
          rw [e9, e10, e11]
          exact upd2_s
        · rw [if_neg (by omega), upd2_of (by omega)]
          exact v.1 p a1 c1
      · rw [upd2_ne (by omega)]; exact v.2.1
      · rw [upd2_ne (by omega)]; exact v.2.2
theorem L157 {V : Int → Int} {g : Int} {h : HP} (hV : Vok V) (hg : 0 ≤ g ∧ g < 20) (e : ∀ p, 0 ≤ p → p < 5 → h (14 + Int.toNat g) p = V (5 * g + p)) (e34 : h 34 g = -1) (e35 : h 35 g = 0) (e9 : 0 ≤ h 8 9 ∧ h 8 9 ≤ 100) : ∀ (k p : Nat) (x4 : Int) (z : aV), p + k = 5 → (lsp V g p < 1000 → x4 = lsp V g p) → (lsp V g p = 1000 → x4 = 999) → Wp X 1 157 24 [vr 8, vi g, vi (cnp V g p), vi (smp V g p), vi x4, vi (grp V g p), vi p, z] [] h (fun r h' => r = none ∧ Fr (fun a j => (a = 8 ∧ j = 9) ∨ ((a = 34 ∨ a = 35) ∧ j = g)) h h' ∧ h' 8 9 = h 8 9 + cnp V g 5 ∧ h' 34 g = (if cnp V g 5 = 0 then -1 else mnV V g) ∧ h' 35 g = spV V g)
  | 0, p, x4, z, hp, hx, hx2 => by
    have hp : p = 5 := by omega
    subst hp
    have r1 := cnp_r (V := V) (g := g) 5
    have r2 := smp_r hV (g := g) 5
    have r3 := lsp_r hV (g := g) 5
    refine S157_8_24 g _ _ _ _ _ z ⟨fun _ => ⟨by unfold R32; omega, fun c => ⟨rfl, Fr.rf.up (.inl ⟨rfl, rfl⟩), upd2_s, ?_, ?_⟩, fun c => ?_⟩, fun q => absurd q (by omega)⟩
    · rw [if_pos (by omega), upd2_ne (by decide)]; exact e34
    · unfold spV
      rw [if_pos (by omega), upd2_ne (by decide)]; exact e35
    · have r4 := mean_r (s := smp V g 5) (c := cnp V g 5) (by omega) (by omega) (by omega)
      have r5 : 0 ≤ Int.tdiv 60 (cnp V g 5) ∧ Int.tdiv 60 (cnp V g 5) ≤ 60 := by
        rcases (show cnp V g 5 = 1 ∨ cnp V g 5 = 2 ∨ cnp V g 5 = 3 ∨ cnp V g 5 = 4 ∨ cnp V g 5 = 5 by omega) with q | q | q | q | q <;> rw [q] <;> decide
      rw [tdiv60 (by omega)] at r4
      refine ⟨by unfold R32; omega, by unfold R32; omega, hg, by unfold R32; omega, rfl, ((Fr.rf.up (.inl ⟨rfl, rfl⟩)).up (.inr ⟨.inl rfl, rfl⟩)).up (.inr ⟨.inr rfl, rfl⟩), ?_, ?_, ?_⟩
      · rw [upd2_ne (by decide), upd2_ne (by decide), upd2_s]
      · unfold mnV
        rw [if_neg (by omega), if_neg (by omega), upd2_ne (by decide), upd2_s, tdiv60 (by omega)]
      · unfold spV
        rw [if_neg (by omega), upd2_s]
        have := hx
        have : lsp V g 5 ≤ 999 := by omega
        omega
  | k + 1, p, x4, z, hp, hx, hx2 => by
    have r1 := cnp_r (V := V) (g := g) p
    have r2 := smp_r hV (g := g) p
    have r3 := lsp_r hV (g := g) p
    have rv := hV (5 * g + p)
    have ih := fun y => L157 hV hg e e34 e35 e9 k (p + 1) y (vi (V (5 * g + p))) (by omega)
    refine S157_8_24 g _ _ _ _ _ z ⟨fun q => absurd q (by omega), fun _ => ⟨hg, ⟨by omega, by omega⟩, ?_⟩⟩
    rw [e _ (by omega) (by omega)]
    unfold cnp smp lsp grp at ih
    refine ⟨fun c => ?_, fun c => ⟨by unfold R32; omega, by unfold R32; omega, fun c2 => ⟨fun c3 => ?_, fun c3 => ?_⟩, fun c2 => ⟨fun c3 => ?_, fun c3 => ?_⟩⟩⟩
    · have ih := ih x4
      rw [if_pos c, if_pos c, if_pos c, if_pos c, Int.add_zero, Int.add_zero] at ih
      exact ih hx hx2
    · have ih := ih (V (5 * g + p))
      rw [if_neg c, if_neg c, if_neg c, if_neg c, if_pos (by omega), if_pos (by omega)] at ih
      exact ih (by omega) (by omega)
    · have ih := ih (V (5 * g + p))
      rw [if_neg c, if_neg c, if_neg c, if_neg c, if_pos (by omega), if_neg (by omega)] at ih
      exact ih (by omega) (by omega)
    · have ih := ih x4
      rw [if_neg c, if_neg c, if_neg c, if_neg c] at ih
      by_cases w : V (5 * g + p) < lsp V g p
      · rw [if_pos w, if_pos (by omega)] at ih
        exact ih (by omega) (by omega)
      · rw [if_neg w, if_pos (by omega)] at ih
        exact ih hx hx2
    · have ih := ih x4
      rw [if_neg c, if_neg c, if_neg c, if_neg c] at ih
      by_cases w : V (5 * g + p) < lsp V g p
      · rw [if_pos w, if_neg (by omega)] at ih
        exact ih (by omega) (by omega)
      · rw [if_neg w, if_neg (by omega)] at ih
        exact ih hx hx2
theorem K157 {V : Int → Int} {g : Int} {h : HP} (hV : Vok V) (hg : 0 ≤ g ∧ g < 20) (hG : g < h 8 8) (e : ∀ p, 0 ≤ p → p < 5 → h (14 + Int.toNat g) p = V (5 * g + p)) (e34 : h 34 g = -1) (e35 : h 35 g = 0) (e9 : 0 ≤ h 8 9 ∧ h 8 9 ≤ 100) : Wp X 1 157 0 [vr 8, vi g, vu, vu, vu, vu, vu, vu] [] h (fun r h' => r = none ∧ Fr (fun a j => (a = 8 ∧ j = 9) ∨ ((a = 34 ∨ a = 35) ∧ j = g)) h h' ∧ h' 8 9 = h 8 9 + cnp V g 5 ∧ h' 34 g = (if cnp V g 5 = 0 then -1 else mnV V g) ∧ h' 35 g = spV V g) :=
  S157_8_0 g ⟨fun q => absurd q (by omega), fun _ => ⟨fun q => absurd q (by omega), fun _ => L157 hV hg e e34 e35 e9 5 0 999 vu rfl (fun q => absurd (show (1000 : Int) < 1000 from q) (by decide)) (fun _ => rfl)⟩⟩
theorem L154c {V : Int → Int} (hV : Vok V) (C : Cok h0) (cont : ∀ h, Fr fK h0 h → CV V (h0 8 8) h → Q none h) : ∀ (k n : Nat) (h : HP) (z : aV), (n : Int) + k = h0 8 8 → Fr fK h0 h → h 8 9 = su (fun g => cnp V g 5) n → (∀ g : Int, 0 ≤ g → g < h0 8 8 → (∀ p, 0 ≤ p → p < 5 → h (14 + Int.toNat g) p = V (5 * g + p))) → (∀ g : Int, 0 ≤ g → g < n → h 34 g = (if cnp V g 5 = 0 then -1 else mnV V g) ∧ h 35 g = spV V g) → (∀ g : Int, n ≤ g → g < h0 8 8 → h 34 g = -1 ∧ h 35 g = 0) → Wp X 2 154 76 [vr 8, z, vi n] [] h Q
  | 0, n, h, z, hk, F, e9, K, M, M2 => by
    have e8 : h 8 8 = h0 8 8 := F 8 8 (by unfold fK; omega)
    refine S154_8_76 z n ⟨fun _ => cont h F ⟨fun g a c => ⟨K g a c, M g a (by omega)⟩, ?_⟩, fun q => absurd q (by omega)⟩
    rw [e9, show (h0 8 8).toNat = n by omega]
  | k + 1, n, h, z, hk, F, e9, K, M, M2 => by
    have e8 : h 8 8 = h0 8 8 := F 8 8 (by unfold fK; omega)
    have c1 := C.1
    have s0 := su_nn (f := fun g => cnp V g 5) (n := n) (fun i _ => (cnp_r 5).1)
    have s1 := su_le (f := fun g => cnp V g 5) (c := 5) (n := n) (fun i _ => (cnp_r 5).2)
    have m2 := M2 n (by omega) (by omega)
    refine S154_8_76 z n ⟨fun q => absurd q (by omega), fun _ => (K157 hV ⟨by omega, by omega⟩ (by omega) (K n (by omega) (by omega)) m2.1 m2.2 (by omega)).mono fun r h1 _ q => ?_⟩
    obtain ⟨rfl, q1, q2, q3, q4⟩ := q
    refine S154_8_89 z n ⟨by unfold R32; omega, L154c hV C cont k (n + 1) h1 _ (by omega) (F.tr (q1.mo fun a j c => by unfold fK; omega)) (by rw [q2, e9]; rfl) (fun g a c p a1 c1 => ?_) (fun g a c => ?_) (fun g a c => ?_)⟩
    · rw [q1 _ _ (by omega)]; exact K g a c p a1 c1
    · by_cases w : g = n
      · rw [w]; exact ⟨q3, q4⟩
      · rw [q1 _ _ (by omega), q1 _ _ (by omega)]; exact M g a (by omega)
    · rw [q1 _ _ (by omega), q1 _ _ (by omega)]; exact M2 g (by omega) c
theorem K154 {as : Int} (C : Cok h0) : Wp X 2 154 0 [vr 8, vi as, vu] [] h0 (fun r h => r = none ∧ Fr fK h0 h ∧ CV (CVL h0 as) (h0 8 8) h) := by
  have c1 := C.1
  refine S154_8_0 as (L154a C (fun h F V => ?_) (h0 8 8).toNat 0 h0 (by omega) (by omega) Fr.rf (fun g a c => absurd c (by omega)))
  refine L154b C (fun h F e9 V => ?_) (h0 8 7).toNat 0 h (by omega) F V
  exact L154c (CVL_ok C) C (fun h F c => ⟨rfl, F, c⟩) (h0 8 8).toNat 0 h _ (by omega) F e9 (fun g a c => (V g a c).1) (fun g a c => absurd c (by omega)) (fun g a c => (V g (by omega) c).2)
end
