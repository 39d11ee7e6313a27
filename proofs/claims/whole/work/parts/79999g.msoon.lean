-- ===== the reference: how soon =====
/-- n rules, all of z -/
def Zok (w : Int → Int) (n : Nat) : Prop := n ≤ 8 ∧ ∀ i : Nat, i < n → w (pos w i) = 122 ∧ 1 ≤ kR w (pos w i) ∧ kR w (pos w i) ≤ nR w (pos w i) ∧ nR w (pos w i) ≤ 5 ∧ 0 ≤ zR w (pos w i) ∧ zR w (pos w i) ≤ 3
/-- a word warns by rule i -/
abbrev RwI (w : Int → Int) (n : Nat) (e : Nat → Nat) (i : Nat) : Prop := kR w (pos w i) ≤ sn (fun a => (gab w n (e a) i : Int)) (nR w (pos w i)).toNat ∨ kR w (pos w i) ≤ sn (fun a => (gbl w n (e a) i : Int)) (nR w (pos w i)).toNat
/-- a word warns -/
def Rw (w : Int → Int) (n : Nat) (e : Nat → Nat) : Bool := (List.range n).any fun i => decide (RwI w n e i)
theorem Rw_iff {w : Int → Int} {n : Nat} {e : Nat → Nat} : Rw w n e = true ↔ ∃ i, i < n ∧ RwI w n e i := by
  unfold Rw
  rw [List.any_eq_true]
  exact ⟨fun ⟨i, a, c⟩ => ⟨i, List.mem_range.mp a, of_decide_eq_true c⟩, fun ⟨i, a, c⟩ => ⟨i, List.mem_range.mpr a, decide_eq_true c⟩⟩
theorem RwI_cg {w : Int → Int} {n i : Nat} {e e' : Nat → Nat} (H : ∀ a : Nat, (a : Int) < nR w (pos w i) → gab w n (e a) i = gab w n (e' a) i ∧ gbl w n (e a) i = gbl w n (e' a) i) : RwI w n e i ↔ RwI w n e' i := by
  unfold RwI
  rw [sn_cg (f := fun a => (gab w n (e a) i : Int)) (g := fun a => (gab w n (e' a) i : Int)) (fun a ha => congrArg Int.ofNat (H a (by omega)).1), sn_cg (f := fun a => (gbl w n (e a) i : Int)) (g := fun a => (gbl w n (e' a) i : Int)) (fun a ha => congrArg Int.ofNat (H a (by omega)).2)]
theorem Rw_cg {w : Int → Int} {n : Nat} {e e' : Nat → Nat} (H : ∀ i, i < n → ∀ a : Nat, (a : Int) < nR w (pos w i) → gab w n (e a) i = gab w n (e' a) i ∧ gbl w n (e a) i = gbl w n (e' a) i) : Rw w n e = Rw w n e' := by
  rw [Bool.eq_iff_iff, Rw_iff, Rw_iff]
  exact ⟨fun ⟨i, a, c⟩ => ⟨i, a, (RwI_cg (H i a)).mp c⟩, fun ⟨i, a, c⟩ => ⟨i, a, (RwI_cg (H i a)).mpr c⟩⟩
theorem sn_01 {f : Nat → Int} : ∀ {n : Nat}, (∀ i, i < n → 0 ≤ f i ∧ f i ≤ 1) → 0 ≤ sn f n ∧ sn f n ≤ n
  | 0, _ => by show (0 : Int) ≤ 0 ∧ (0 : Int) ≤ 0; omega
  | n + 1, H => by
    have := sn_01 (n := n) (fun i hi => H i (by omega))
    have := H n (by omega)
    show 0 ≤ sn f n + f n ∧ sn f n + f n ≤ (n : Int) + 1
    omega
theorem gab_01 {w : Int → Int} {n s i : Nat} : 0 ≤ (gab w n s i : Int) ∧ (gab w n s i : Int) ≤ 1 := by unfold gab; split <;> omega
theorem gbl_01 {w : Int → Int} {n s i : Nat} : 0 ≤ (gbl w n s i : Int) ∧ (gbl w n s i : Int) ≤ 1 := by unfold gbl; split <;> omega
/-- a state's word, behind a class -/
def eM (x c : Nat) : Nat → Nat := cs c fun a => x / 9 ^ a % 9
section
variable {X : Nat × (Int → Int)}
theorem L112 {h : HP} {w : Int → Int} {n x c i : Nat} {Q : bQ} (m : MS h w n) (z : Zok w n) (hi : i < n) (hx : x < 6561) (hc : c < 8) (yes : RwI w n (eM x c) i → Q (some (vi 1)) h) (no : ¬ RwI w n (eM x c) i → ∀ z4 z5 z6 z7 z8 z9 : aV, Wp X 1 112 2 [vr 89, vi x, vi c, vi ((i : Int) + 1), z4, z5, z6, z7, z8, z9] [] h Q) : ∀ (k a : Nat) (u d y s : Int) (z9 : aV), (a : Int) + k = nR w (pos w i) → u = sn (fun a => (gab w n (eM x c a) i : Int)) a → d = sn (fun a => (gbl w n (eM x c a) i : Int)) a → y = ((x / 9 ^ a : Nat) : Int) → s = ((eM x c a : Nat) : Int) → Wp X 1 112 25 [vr 89, vi x, vi c, vi i, vi u, vi d, vi y, vi s, vi a, z9] [] h Q := by
  have r := z.2 i hi
  have e := m.2 i hi
  have h8 := z.1
  intro k
  induction k with
  | zero =>
    intro a u d y s z9 hk hu hd hy hs
    have ea : (nR w (pos w i)).toNat = a := by omega
    have iff : RwI w n (eM x c) i ↔ kR w (pos w i) ≤ u ∨ kR w (pos w i) ≤ d := by
      unfold RwI
      rw [ea, hu, hd]
    refine S112_89_25 _ _ _ _ _ _ _ _ _ ⟨⟨by omega, by omega⟩, fun _ => ⟨fun q => yes (iff.mpr (.inl (by omega))), fun q => ⟨fun q2 => no (fun t => by have := iff.mp t; omega) _ _ _ _ _ _, fun q2 => yes (iff.mpr (.inr (by omega)))⟩⟩, fun q => absurd q (by omega)⟩
  | succ k ih =>
    intro a u d y s z9 hk hu hd hy hs
    have ux := sn_01 (f := fun a => (gab w n (eM x c a) i : Int)) (n := a) (fun _ _ => gab_01)
    have dx := sn_01 (f := fun a => (gbl w n (eM x c a) i : Int)) (n := a) (fun _ _ => gbl_01)
    have yx : x / 9 ^ a ≤ x := Nat.div_le_self _ _
    have ty : Int.tdiv y 9 = ((x / 9 ^ (a + 1) : Nat) : Int) := by
      rw [hy, Nat.pow_succ, ← Nat.div_div_eq_div_mul]; rfl
    have tm : Int.tmod y 9 = ((eM x c (a + 1) : Nat) : Int) := by rw [hy]; rfl
    have yx2 : x / 9 ^ (a + 1) ≤ x := Nat.div_le_self _ _
    have y0 : 0 ≤ ((x / 9 ^ (a + 1) : Nat) : Int) := Int.natCast_nonneg _
    have s8 : eM x c a ≤ 8 := by
      cases a with
      | zero => show c ≤ 8; omega
      | succ a => show x / 9 ^ a % 9 ≤ 8; omega
    have gu : (gab w n (eM x c a) i : Int) = if 4 ≤ s ∧ s ≤ 7 ∧ zR w (pos w i) ≤ s - 4 then 1 else 0 := by
      unfold gab
      split <;> split <;> omega
    have gd : (gbl w n (eM x c a) i : Int) = if s ≤ 3 ∧ zR w (pos w i) ≤ 3 - s then 1 else 0 := by
      unfold gbl
      split <;> split <;> omega
    have step : ∀ (u' d' : Int) (z : aV), u' = u + (gab w n (eM x c a) i : Int) → d' = d + (gbl w n (eM x c a) i : Int) → (R32 u') ∧ (R32 d') ∧ (R32 (Int.tdiv y 9)) ∧ (R32 ((a : Int) + 1)) ∧ Wp X 1 112 25 [vr 89, vi x, vi c, vi i, vi u', vi d', vi (Int.tdiv y 9), vi (Int.tmod y 9), vi ((a : Int) + 1), z] [] h Q := by
      intro u' d' z eu ed
      have g1 := gab_01 (w := w) (n := n) (s := eM x c a) (i := i)
      have g2 := gbl_01 (w := w) (n := n) (s := eM x c a) (i := i)
      exact ⟨by unfold R32; omega, by unfold R32; omega, by rw [ty]; unfold R32; omega, by unfold R32; omega, ih (a + 1) u' d' _ _ z (by omega) (by rw [eu, hu]; rfl) (by rw [ed, hd]; rfl) ty tm⟩
    refine S112_89_25 _ _ _ _ _ _ _ _ _ ⟨⟨by omega, by omega⟩, fun q => absurd q (by omega), fun _ => ⟨fun q4 => ⟨by unfold R32; omega, fun q => step _ _ _ ?_ ?_, fun q => ⟨fun q8 => step _ _ _ ?_ ?_, fun q8 => step _ _ _ ?_ ?_⟩⟩, fun q4 => ⟨by unfold R32; omega, fun q => step _ _ _ ?_ ?_, fun q => step _ _ _ ?_ ?_⟩⟩⟩
    · rw [gu, if_neg (by omega)]
    · rw [gd, if_neg (by omega)]
    · rw [gu, if_pos (by omega)]
    · rw [gd, if_neg (by omega)]
    · rw [gu, if_neg (by omega)]
    · rw [gd, if_neg (by omega)]
    · rw [gu, if_neg (by omega)]
    · rw [gd, if_neg (by omega)]
    · rw [gu, if_neg (by omega)]
    · rw [gd, if_pos (by omega)]
theorem K112 {h : HP} {w : Int → Int} {n x c : Nat} (m : MS h w n) (z : Zok w n) (hx : x < 6561) (hc : c < 8) : Wp X 1 112 0 [vr 89, vi x, vi c, vu, vu, vu, vu, vu, vu, vu] [] h (fun v h' => v = some (vi (if Rw w n (eM x c) = true then 1 else 0)) ∧ h' = h) := by
  have L : ∀ (k i : Nat) (z4 z5 z6 z7 z8 z9 : aV), i + k = n → (∀ j, j < i → ¬ RwI w n (eM x c) j) → Wp X 1 112 2 [vr 89, vi x, vi c, vi i, z4, z5, z6, z7, z8, z9] [] h (fun v h' => v = some (vi (if Rw w n (eM x c) = true then 1 else 0)) ∧ h' = h) := by
    intro k
    induction k with
    | zero =>
      intro i z4 z5 z6 z7 z8 z9 hk fl
      refine S112_89_2 _ _ _ _ _ _ _ _ _ ⟨fun _ => ⟨?_, rfl⟩, fun q => absurd q (by rw [m.1]; omega)⟩
      rw [if_neg (fun t => ?_)]
      obtain ⟨j, a1, a2⟩ := Rw_iff.mp t
      exact fl j (by omega) a2
    | succ k ih =>
      intro i z4 z5 z6 z7 z8 z9 hk fl
      refine S112_89_2 _ _ _ _ _ _ _ _ _ ⟨fun q => absurd q (by rw [m.1]; omega), fun _ => ?_⟩
      have r := z.2 i (by omega)
      have yes : RwI w n (eM x c) i → some (vi 1) = some (vi (if Rw w n (eM x c) = true then 1 else 0)) ∧ h = h := fun t => by
        rw [if_pos (Rw_iff.mpr ⟨i, by omega, t⟩)]
        exact ⟨rfl, rfl⟩
      refine L112 m z (by omega) hx hc yes (fun t z4 z5 z6 z7 z8 z9 => ih (i + 1) z4 z5 z6 z7 z8 z9 (by omega) (fun j hj => ?_)) (nR w (pos w i)).toNat 0 0 0 x c z9 (by omega) rfl rfl (by rw [Nat.pow_zero, Nat.div_one]) rfl
      by_cases e : j = i
      · rw [e]; exact t
      · exact fl j (by omega)
  exact S112_89_0 _ _ (L n 0 vu vu vu vu vu vu (by omega) (fun j hj => absurd hj (Nat.not_lt_zero j)))
end
/-- a class, shifted -/
def clp (d : Int) (c : Nat) : Nat := if (c : Int) + d < 0 then 0 else if 7 < (c : Int) + d then 7 else ((c : Int) + d).toNat
theorem clp_lt {d : Int} {c : Nat} : clp d c < 8 := by unfold clp; split <;> (try split) <;> omega
def wtM (sg : Nat → Int) (d : Int) (c : Nat) : Int := sn (fun i => if clp d i = c then sg i else 0) 8
def codM (_ : Nat) (e : Nat → Nat) : Nat := e 0 + 9 * e 1 + 81 * e 2 + 729 * e 3
def hitM (w : Int → Int) (n : Nat) (_ x c : Nat) : Bool := Rw w n (eM x c)
def nxM (_ x c : Nat) : Nat := x % 729 * 9 + c
theorem Rd_M {w : Int → Int} {n : Nat} {d : Int} {sg : Nat → Int} (z : Zok w n) : Rd (wtM sg d) sg (hitM w n) nxM (fun _ => 6561) 6560 (clp d) (clp d) (Rw w n) codM := by
  have w8 : ∀ {t : Nat} {e : Nat → Nat}, Wd t e → ∀ a, e a ≤ 8 := by
    intro t e h a
    by_cases q : a < t
    · have := h.1 a q; omega
    · exact Nat.le_of_eq (h.2 a (by omega))
  refine ⟨fun c _ => rfl, fun i _ => ⟨clp_lt, clp_lt⟩, rfl, fun t e h => ?_, fun t e i h hi => ?_⟩
  · have a0 := w8 h 0
    have a1 := w8 h 1
    have a2 := w8 h 2
    have a3 := w8 h 3
    unfold codM
    show _ < 6561
    omega
  · have a0 := w8 h 0
    have a1 := w8 h 1
    have a2 := w8 h 2
    have a3 := w8 h 3
    constructor
    · show Rw w n (eM (codM t e) (clp d i)) = _
      have k : ∀ a, a < 5 → eM (codM t e) (clp d i) a = cs (clp d i) e a := by
        intro a ha
        match a with
        | 0 => rfl
        | 1 => show (e 0 + 9 * e 1 + 81 * e 2 + 729 * e 3) / 1 % 9 = e 0; omega
        | 2 => show (e 0 + 9 * e 1 + 81 * e 2 + 729 * e 3) / 9 % 9 = e 1; omega
        | 3 => show (e 0 + 9 * e 1 + 81 * e 2 + 729 * e 3) / 81 % 9 = e 2; omega
        | 4 => show (e 0 + 9 * e 1 + 81 * e 2 + 729 * e 3) / 729 % 9 = e 3; omega
        | a + 5 => omega
      exact Rw_cg fun j hj a ha => by rw [k a (by have := (z.2 j hj).2.2.2.1; omega)]; exact ⟨rfl, rfl⟩
    · show (e 0 + 9 * e 1 + 81 * e 2 + 729 * e 3) % 729 * 9 + clp d i = clp d i + 9 * e 0 + 81 * e 1 + 729 * e 2
      omega
def f114 (a : Nat) (_ : Int) : Prop := 112 ≤ a ∧ a ≤ 115
section
variable {X : Nat × (Int → Int)}
/-- the model's loops over the pairs of a state and a class -/
def S114 (h0 h : HP) (wt : Nat → Int) (V : Nat → Int) (hit : Nat → Nat → Bool) (nx : Nat → Nat → Nat) (W : Nat → Int) (t x c : Nat) : Prop :=
  Fr f114 h0 h ∧ (∀ c : Nat, c < 8 → h 112 c = wt c) ∧ (∀ x : Nat, x < 6561 → h 113 x = V x) ∧ (∀ y : Nat, y < 6561 → h 114 y = pG (zV V wt hit nx y) x c) ∧ h 115 ((t : Int) + 1) = pG (zJ V wt hit) x c ∧ ∀ j : Nat, j < t → h 115 ((j : Int) + 1) = W j
theorem S114_nx {h0 h : HP} {wt V : Nat → Int} {hit : Nat → Nat → Bool} {nx : Nat → Nat → Nat} {W : Nat → Int} {t x c : Nat} {y : Int} (s : S114 h0 h wt V hit nx W t x c) (hit0 : V x * wt c = 0 ∨ hit x c = false) (hy : y = (nx x c : Nat)) : S114 h0 (upd2 h 114 y (h 114 y + V x * wt c)) wt V hit nx W t x (c + 1) := by
  refine ⟨s.1.up ⟨by decide, by decide⟩, fun c hc => (congrFun (upd2_ne (by decide)) _).trans (s.2.1 c hc), fun x hx => (congrFun (upd2_ne (by decide)) _).trans (s.2.2.1 x hx), fun y' hy' => ?_, ?_, fun j hj => (congrFun (upd2_ne (by decide)) _).trans (s.2.2.2.2.2 j hj)⟩
  · rw [upd2_at, pG_s]
    have o := s.2.2.2.1 y' hy'
    by_cases e : nx x c = y'
    · rw [if_pos (by omega), hy, e, o]
      rcases hit0 with q | q
      · unfold zV
        rw [if_pos e, q, ite_self]
      · unfold zV
        rw [if_neg (by rw [q]; decide), if_pos e]
    · rw [if_neg (by omega), o]
      unfold zV
      rw [if_neg e, ite_self, Int.add_zero]
  · rw [show upd2 h 114 y (h 114 y + V x * wt c) 115 = h 115 from upd2_ne (by decide), s.2.2.2.2.1, pG_s]
    unfold zJ
    rcases hit0 with q | q
    · rw [q, ite_self, Int.add_zero]
    · rw [if_neg (by rw [q]; decide), Int.add_zero]
theorem S114_hit {h0 h : HP} {wt V : Nat → Int} {hit : Nat → Nat → Bool} {nx : Nat → Nat → Nat} {W : Nat → Int} {t x c : Nat} (s : S114 h0 h wt V hit nx W t x c) (hh : hit x c = true) : S114 h0 (upd2 h 115 ((t : Int) + 1) (h 115 ((t : Int) + 1) + V x * wt c)) wt V hit nx W t x (c + 1) := by
  refine ⟨s.1.up ⟨by decide, by decide⟩, fun c hc => (congrFun (upd2_ne (by decide)) _).trans (s.2.1 c hc), fun x hx => (congrFun (upd2_ne (by decide)) _).trans (s.2.2.1 x hx), fun y' hy' => ?_, ?_, fun j hj => (upd2_o (by omega)).trans (s.2.2.2.2.2 j hj)⟩
  · rw [show upd2 h 115 ((t : Int) + 1) (h 115 ((t : Int) + 1) + V x * wt c) 114 = h 114 from upd2_ne (by decide), s.2.2.2.1 y' hy', pG_s]
    unfold zV
    rw [if_pos hh, Int.add_zero]
  · rw [upd2_s, s.2.2.2.2.1, pG_s]
    unfold zJ
    rw [if_pos hh]
theorem S114_row {h0 h : HP} {wt V : Nat → Int} {hit : Nat → Nat → Bool} {nx : Nat → Nat → Nat} {W : Nat → Int} {t x : Nat} (s : S114 h0 h wt V hit nx W t x 8) : S114 h0 h wt V hit nx W t (x + 1) 0 :=
  ⟨s.1, s.2.1, s.2.2.1, fun y hy => by rw [pG_r]; exact s.2.2.2.1 y hy, by rw [pG_r]; exact s.2.2.2.2.1, s.2.2.2.2.2⟩
theorem S114_skip {h0 h : HP} {wt V : Nat → Int} {hit : Nat → Nat → Bool} {nx : Nat → Nat → Nat} {W : Nat → Int} {t x c : Nat} (s : S114 h0 h wt V hit nx W t x c) (hz : V x = 0) : S114 h0 h wt V hit nx W t (x + 1) 0 :=
  ⟨s.1, s.2.1, s.2.2.1, fun y hy => by rw [pG_z (c := c) fun c => by unfold zV; rw [hz, Int.zero_mul, ite_self, ite_self]]; exact s.2.2.2.1 y hy, by rw [pG_z (c := c) fun c => by unfold zJ; rw [hz, Int.zero_mul, ite_self]]; exact s.2.2.2.2.1, s.2.2.2.2.2⟩
/-- bounds of a step -/
def B114 (wt V : Nat → Int) (hit : Nat → Nat → Bool) (nx : Nat → Nat → Nat) : Prop :=
  (∀ x, 0 ≤ V x ∧ V x ≤ 281474976710656) ∧ (∀ c, c < 8 → 0 ≤ wt c ∧ wt c ≤ 64) ∧ (∀ x c : Nat, x < 6561 → c < 8 → (∀ y, 0 ≤ pG (zV V wt hit nx y) x c ∧ pG (zV V wt hit nx y) x c ≤ 18014398509481984) ∧ 0 ≤ pG (zJ V wt hit) x c ∧ pG (zJ V wt hit) x c ≤ 18014398509481984)
theorem L163 {h0 : HP} {w : Int → Int} {n : Nat} {wt V : Nat → Int} {W : Nat → Int} {t x : Nat} {m : Int} {z2 : aV} {Q : bQ} (ms : MS h0 w n) (z : Zok w n) (hx : x < 6561) (ht : t < 9) (B : B114 wt V (fun x c => Rw w n (eM x c)) (nxM t)) (cont : ∀ (h : HP) (z5 z6 : aV), S114 h0 h wt V (fun x c => Rw w n (eM x c)) (nxM t) W t (x + 1) 0 → Wp X 2 114 152 [vr 89, vi m, z2, vi ((t : Int) + 1), vi ((x : Int) + 1), z5, z6, vu] [] h Q) : ∀ (k c : Nat) (h : HP) (z6 : aV), c + k = 8 → S114 h0 h wt V (fun x c => Rw w n (eM x c)) (nxM t) W t x c → Wp X 2 114 163 [vr 89, vi m, z2, vi ((t : Int) + 1), vi x, vi c, z6, vu] [] h Q := by
  intro k
  induction k with
  | zero =>
    intro c h z6 hk s
    have hc : c = 8 := by omega
    subst hc
    exact T114_89_163 _ _ _ _ _ _ ⟨fun _ => ⟨by unfold R32; omega, cont h _ _ (S114_row s)⟩, fun q => absurd q (by omega)⟩
  | succ k ih =>
    intro c h z6 hk s
    have eV := s.2.2.1 x hx
    have ew := s.2.1 c (by omega)
    have bV := B.1 x
    have bw := B.2.1 c (by omega)
    have bm := mulB' bV.1 bV.2 bw.1 bw.2
    have bb := B.2.2 x c hx (by omega)
    have td : Int.tmod (x : Int) 729 = ((x % 729 : Nat) : Int) := rfl
    have en : Int.tmod (x : Int) 729 * 9 + (c : Int) = ((nxM t x c : Nat) : Int) := by rw [td]; unfold nxM; omega
    have nl : nxM t x c < 6561 := by unfold nxM; omega
    have ey := s.2.2.2.1 (nxM t x c) nl
    have by' := bb.1 (nxM t x c)
    refine T114_89_163 _ _ _ _ _ _ ⟨fun q => absurd q (by omega), fun _ => ⟨⟨by omega, by omega⟩, ?_⟩⟩
    rw [eV, ew]
    refine ⟨fun q => cont h _ _ (S114_skip s (by omega)), fun q => ⟨⟨by omega, by omega⟩, by unfold R64; omega, fun q2 => ⟨by rw [td]; unfold R32; omega, by rw [td]; unfold R32; omega, ?_⟩, fun q2 => ?_⟩⟩
    · rw [en, ey]
      refine ⟨⟨by omega, by omega⟩, by unfold R64; omega, ?_⟩
      rw [← ey]
      exact ih (c + 1) _ _ (by omega) (S114_nx s (.inl (by omega)) rfl)
    · have ms1 : MS h w n := ms.fr s.1 (by unfold f114; omega) (fun a j a1 a2 => by unfold f114; omega)
      refine (K112 ms1 z hx (by omega)).mono fun v h1 _ e => ?_
      obtain ⟨rfl, rfl⟩ := e
      refine S114_89_215 _ _ _ _ _ _ _ ⟨fun q3 => ⟨by rw [td]; unfold R32; omega, by rw [td]; unfold R32; omega, ?_⟩, fun q3 => ⟨⟨by omega, by omega⟩, by rw [s.2.2.2.2.1]; unfold R64; omega, by unfold R32; omega, ?_⟩⟩
      · rw [en]
        refine ⟨⟨by omega, by omega⟩, by rw [ey]; unfold R64; omega, by unfold R32; omega, ?_⟩
        refine ih (c + 1) _ _ (by omega) (S114_nx s (.inr ?_) rfl)
        show Rw w n (eM x c) = false
        cases hr : Rw w n (eM x c)
        · rfl
        · rw [if_pos hr] at q3; exact absurd q3 (by decide)
      · refine ih (c + 1) _ _ (by omega) (S114_hit s ?_)
        show Rw w n (eM x c) = true
        cases hr : Rw w n (eM x c)
        · rw [if_neg (by rw [hr]; decide)] at q3; exact absurd rfl q3
        · rfl
theorem L152 {h0 : HP} {w : Int → Int} {n : Nat} {wt V : Nat → Int} {W : Nat → Int} {t : Nat} {m : Int} {z2 : aV} {Q : bQ} (ms : MS h0 w n) (z : Zok w n) (ht : t < 9) (B : B114 wt V (fun x c => Rw w n (eM x c)) (nxM t)) (cont : ∀ (h : HP) (z5 z6 : aV), S114 h0 h wt V (fun x c => Rw w n (eM x c)) (nxM t) W t 6561 0 → Wp X 2 114 269 [vr 89, vi m, z2, vi ((t : Int) + 1), vi 0, z5, z6, vu] [] h Q) : ∀ (k x : Nat) (h : HP) (z5 z6 : aV), x + k = 6561 → S114 h0 h wt V (fun x c => Rw w n (eM x c)) (nxM t) W t x 0 → Wp X 2 114 152 [vr 89, vi m, z2, vi ((t : Int) + 1), vi x, z5, z6, vu] [] h Q := by
  intro k
  induction k with
  | zero =>
    intro x h z5 z6 hk s
    have hx : x = 6561 := by omega
    subst hx
    exact S114_89_152 _ _ _ _ _ _ ⟨fun _ => cont h _ _ s, fun q => absurd q (by omega)⟩
  | succ k ih =>
    intro x h z5 z6 hk s
    exact S114_89_152 _ _ _ _ _ _ ⟨fun q => absurd q (by omega), fun _ => L163 ms z (by omega) ht B (fun h z5 z6 s => ih (x + 1) h z5 z6 (by omega) s) 8 0 h z6 rfl s⟩
end
