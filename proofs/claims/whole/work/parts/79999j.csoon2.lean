def f181 (a : Nat) (j : Int) : Prop := (a = 69 ∧ 2 ≤ j ∧ j ≤ 4) ∨ a = 72 ∨ a = 73
def f180 (a : Nat) (_ : Int) : Prop := a = 71
section
variable {X : Nat × (Int → Int)}
/-- the class's loops over the pairs of a history and a class -/
def S182 (A B : Nat) (h0 h : HP) (wt V : Nat → Int) (hit : Nat → Nat → Bool) (nx : Nat → Nat → Nat) (N N' : Nat) (x c : Nat) : Prop :=
  Fr f181 h0 h ∧ h 69 2 = A ∧ h 69 3 = B ∧ (∀ x : Nat, x < N → h A x = V x) ∧ (∀ y : Nat, y < N' → h B y = pG (zV V wt hit nx y) x c) ∧ h 69 4 = pG (zJ V wt hit) x c
/-- bounds of a step -/
def B182 (wt V : Nat → Int) (hit : Nat → Nat → Bool) (nx : Nat → Nat → Nat) (N : Nat) : Prop :=
  (∀ x, 0 ≤ V x ∧ V x ≤ 281474976710656) ∧ (∀ c, c < 8 → 0 ≤ wt c ∧ wt c ≤ 64) ∧ (∀ x c : Nat, x < N → c < 8 → (∀ y, 0 ≤ pG (zV V wt hit nx y) x c ∧ pG (zV V wt hit nx y) x c ≤ 18014398509481984) ∧ 0 ≤ pG (zJ V wt hit) x c ∧ pG (zJ V wt hit) x c ≤ 18014398509481984)
theorem S182_z {A B : Nat} {h0 h : HP} {wt V : Nat → Int} {hit : Nat → Nat → Bool} {nx : Nat → Nat → Nat} {N N' x c : Nat} (s : S182 A B h0 h wt V hit nx N N' x c) (hz : V x * wt c = 0) : S182 A B h0 h wt V hit nx N N' x (c + 1) :=
  ⟨s.1, s.2.1, s.2.2.1, s.2.2.2.1, fun y hy => by rw [pG_s, show zV V wt hit nx y x c = 0 by unfold zV; rw [hz, ite_self, ite_self], Int.add_zero]; exact s.2.2.2.2.1 y hy, by rw [pG_s, show zJ V wt hit x c = 0 by unfold zJ; rw [hz, ite_self], Int.add_zero]; exact s.2.2.2.2.2⟩
theorem S182_skip {A B : Nat} {h0 h : HP} {wt V : Nat → Int} {hit : Nat → Nat → Bool} {nx : Nat → Nat → Nat} {N N' x c : Nat} (s : S182 A B h0 h wt V hit nx N N' x c) (hz : V x = 0) : S182 A B h0 h wt V hit nx N N' (x + 1) 0 :=
  ⟨s.1, s.2.1, s.2.2.1, s.2.2.2.1, fun y hy => by rw [pG_z (c := c) fun c => by unfold zV; rw [hz, Int.zero_mul, ite_self, ite_self]]; exact s.2.2.2.2.1 y hy, by rw [pG_z (c := c) fun c => by unfold zJ; rw [hz, Int.zero_mul, ite_self]]; exact s.2.2.2.2.2⟩
theorem S182_row {A B : Nat} {h0 h : HP} {wt V : Nat → Int} {hit : Nat → Nat → Bool} {nx : Nat → Nat → Nat} {N N' x : Nat} (s : S182 A B h0 h wt V hit nx N N' x 8) : S182 A B h0 h wt V hit nx N N' (x + 1) 0 :=
  ⟨s.1, s.2.1, s.2.2.1, s.2.2.2.1, fun y hy => by rw [pG_r]; exact s.2.2.2.2.1 y hy, by rw [pG_r]; exact s.2.2.2.2.2⟩
theorem S182_nx72 {h0 h : HP} {wt V : Nat → Int} {hit : Nat → Nat → Bool} {nx : Nat → Nat → Nat} {N N' x c : Nat} {y v : Int} (s : S182 72 73 h0 h wt V hit nx N N' x c) (hh : hit x c = false) (hy : y = (nx x c : Nat)) (hv : nx x c < N' → v = h 73 (nx x c : Nat) + V x * wt c) : S182 72 73 h0 (upd2 h 73 y v) wt V hit nx N N' x (c + 1) := by
  refine ⟨s.1.up (by unfold f181; omega), (congrFun (upd2_ne (by decide)) _).trans s.2.1, (congrFun (upd2_ne (by decide)) _).trans s.2.2.1, fun x hx => (congrFun (upd2_ne (by decide)) _).trans (s.2.2.2.1 x hx), fun y' hy' => ?_, ?_⟩
  · rw [upd2_at, pG_s]
    have o := s.2.2.2.2.1 y' hy'
    by_cases e : nx x c = y'
    · rw [if_pos (by omega), hv (by omega), e, o]
      unfold zV
      rw [if_neg (by rw [hh]; decide), if_pos e]
    · rw [if_neg (by omega), o]
      unfold zV
      rw [if_neg e, ite_self, Int.add_zero]
  · rw [show upd2 h 73 y v 69 = h 69 from upd2_ne (by decide), s.2.2.2.2.2, pG_s]
    unfold zJ
    rw [if_neg (by rw [hh]; decide), Int.add_zero]
theorem S182_hit72 {h0 h : HP} {wt V : Nat → Int} {hit : Nat → Nat → Bool} {nx : Nat → Nat → Nat} {N N' x c : Nat} {v : Int} (s : S182 72 73 h0 h wt V hit nx N N' x c) (hh : hit x c = true) (hv : v = h 69 4 + V x * wt c) : S182 72 73 h0 (upd2 h 69 4 v) wt V hit nx N N' x (c + 1) := by
  refine ⟨s.1.up (by unfold f181; decide), (upd2_o (by decide)).trans s.2.1, (upd2_o (by decide)).trans s.2.2.1, fun x hx => (congrFun (upd2_ne (by decide)) _).trans (s.2.2.2.1 x hx), fun y' hy' => ?_, ?_⟩
  · rw [show upd2 h 69 4 v 73 = h 73 from upd2_ne (by decide), s.2.2.2.2.1 y' hy', pG_s]
    unfold zV
    rw [if_pos hh, Int.add_zero]
  · rw [upd2_s, hv, s.2.2.2.2.2, pG_s]
    unfold zJ
    rw [if_pos hh]
theorem S182_nx73 {h0 h : HP} {wt V : Nat → Int} {hit : Nat → Nat → Bool} {nx : Nat → Nat → Nat} {N N' x c : Nat} {y v : Int} (s : S182 73 72 h0 h wt V hit nx N N' x c) (hh : hit x c = false) (hy : y = (nx x c : Nat)) (hv : nx x c < N' → v = h 72 (nx x c : Nat) + V x * wt c) : S182 73 72 h0 (upd2 h 72 y v) wt V hit nx N N' x (c + 1) := by
  refine ⟨s.1.up (by unfold f181; omega), (congrFun (upd2_ne (by decide)) _).trans s.2.1, (congrFun (upd2_ne (by decide)) _).trans s.2.2.1, fun x hx => (congrFun (upd2_ne (by decide)) _).trans (s.2.2.2.1 x hx), fun y' hy' => ?_, ?_⟩
  · rw [upd2_at, pG_s]
    have o := s.2.2.2.2.1 y' hy'
    by_cases e : nx x c = y'
    · rw [if_pos (by omega), hv (by omega), e, o]
      unfold zV
      rw [if_neg (by rw [hh]; decide), if_pos e]
    · rw [if_neg (by omega), o]
      unfold zV
      rw [if_neg e, ite_self, Int.add_zero]
  · rw [show upd2 h 72 y v 69 = h 69 from upd2_ne (by decide), s.2.2.2.2.2, pG_s]
    unfold zJ
    rw [if_neg (by rw [hh]; decide), Int.add_zero]
theorem S182_hit73 {h0 h : HP} {wt V : Nat → Int} {hit : Nat → Nat → Bool} {nx : Nat → Nat → Nat} {N N' x c : Nat} {v : Int} (s : S182 73 72 h0 h wt V hit nx N N' x c) (hh : hit x c = true) (hv : v = h 69 4 + V x * wt c) : S182 73 72 h0 (upd2 h 69 4 v) wt V hit nx N N' x (c + 1) := by
  refine ⟨s.1.up (by unfold f181; decide), (upd2_o (by decide)).trans s.2.1, (upd2_o (by decide)).trans s.2.2.1, fun x hx => (congrFun (upd2_ne (by decide)) _).trans (s.2.2.2.1 x hx), fun y' hy' => ?_, ?_⟩
  · rw [show upd2 h 69 4 v 72 = h 72 from upd2_ne (by decide), s.2.2.2.2.1 y' hy', pG_s]
    unfold zV
    rw [if_pos hh, Int.add_zero]
  · rw [upd2_s, hv, s.2.2.2.2.2, pG_s]
    unfold zJ
    rw [if_pos hh]
/-- a history goes on by every class -/
theorem K182_49_72 {h0 h : HP} {w : Int → Int} {n : Nat} {wt V : Nat → Int} {N N' k k2 x : Nat} (z : Zok w n) (zr : ZR 49 h0 w n) (hwt : ∀ c : Nat, c < 8 → h0 71 c = wt c) (hk : k ≤ 4) (hk2 : k2 ≤ 4) (hN : N ≤ 4096) (hN' : N' = 8 ^ k2) (hx : x < N) (Bd : B182 wt V (fun x c => Rw w n (eC x k c)) (fun x c => (8 * x + c) % 8 ^ k2) N) (s : S182 72 73 h0 h wt V (fun x c => Rw w n (eC x k c)) (fun x c => (8 * x + c) % 8 ^ k2) N N' x 0) : Wp X 1 182 0 [vr 69, vr 49, vi x, vi k, vl (V x), vu, vi ((8 : Int) ^ k2 - 1), vu, vu, vu, vu, vu, vu, vu] [] h (fun v h1 => v = none ∧ S182 72 73 h0 h1 wt V (fun x c => Rw w n (eC x k c)) (fun x c => (8 * x + c) % 8 ^ k2) N N' (x + 1) 0) := by
  have LC : ∀ (j c : Nat) (h : HP) (z3 z12 : aV), c + j = 8 → S182 72 73 h0 h wt V (fun x c => Rw w n (eC x k c)) (fun x c => (8 * x + c) % 8 ^ k2) N N' x c → Wp X 1 182 69 [vr 69, vr 49, vi x, z3, vl (V x), vu, vi ((8 : Int) ^ k2 - 1), vl (lg (pkH (cl1 w n (gab w n) x k) 8)), vu, vl (lg (pkH (cl1 w n (gbl w n) x k) 8)), vu, vi c, z12, vu] [] h (fun v h1 => v = none ∧ S182 72 73 h0 h1 wt V (fun x c => Rw w n (eC x k c)) (fun x c => (8 * x + c) % 8 ^ k2) N N' (x + 1) 0) := by
    intro j
    induction j with
    | zero =>
      intro c h z3 z12 hc s
      have hc : c = 8 := by omega
      subst hc
      exact S182_69_49_69 _ _ _ _ _ _ _ _ ⟨fun _ => ⟨rfl, S182_row s⟩, fun q => absurd q (by omega)⟩
    | succ j ih =>
      intro c h z3 z12 hc s
      have zr1 : ZR 49 h w n := zr.fr s.1 (by unfold f181; omega) (by unfold f181; omega) (fun a j a1 a2 => by unfold f181; omega)
      have ew : h 71 c = wt c := (s.1 71 c (by unfold f181; omega)).trans (hwt c (by omega))
      have bV := Bd.1 x
      have bw := Bd.2.1 c (by omega)
      have bm := mulB' bV.1 bV.2 bw.1 bw.2
      have bb := Bd.2.2 x c hx (by omega)
      have wv : w64 (V x * wt c) = V x * wt c := w64_I (by unfold R64; omega)
      have zc := zr1.2.2.1 c (by omega)
      have zu : h 50 (c : Int) = lg (pkH (gab w n c) 8) := zc.1
      have zd : h 51 (c : Int) = lg (pkH (gbl w n c) 8) := zc.2
      have zl : h 52 0 = lg (pkH (gsl w n 0) 8) := zr1.2.2.2 0 (by omega)
      have eu : w64 (lg (pkH (cl1 w n (gab w n) x k) 8) + (i64 (lg (pkH (gab w n c) 8)) &&& i64 (lg (pkH (gsl w n 0) 8))).toInt) = lg (pkH (cl2 w n (gab w n) x k c) 8) := by
        rw [lg_and, pkH_and gab_lt gsl_lt, lg_add, pkH_add]; rfl
      have ed : w64 (lg (pkH (cl1 w n (gbl w n) x k) 8) + (i64 (lg (pkH (gbl w n c) 8)) &&& i64 (lg (pkH (gsl w n 0) 8))).toInt) = lg (pkH (cl2 w n (gbl w n) x k c) 8) := by
        rw [lg_and, pkH_and gbl_lt gsl_lt, lg_add, pkH_add]; rfl
      have th := top_hit z (x := x) (k := k) (c := c)
      have en := nx_N (x := x) (c := c) (k := k2) (by omega) (by omega) hk2
      have p8 : 8 ^ k2 ≤ 4096 := by
        rcases (show k2 = 0 ∨ k2 = 1 ∨ k2 = 2 ∨ k2 = 3 ∨ k2 = 4 by omega) with q | q | q | q | q <;> rw [q] <;> decide
      have lt : (8 * x + c) % 8 ^ k2 < 8 ^ k2 := Nat.mod_lt _ (Nat.pow_pos (by decide))
      have ey := s.2.2.2.2.1 ((8 * x + c) % 8 ^ k2) (by omega)
      have by' := bb.1 ((8 * x + c) % 8 ^ k2)
      refine S182_69_49_69 _ _ _ _ _ _ _ _ ⟨fun q => absurd q (by omega), fun _ => ⟨⟨by omega, by omega⟩, ?_⟩⟩
      rw [ew, wv, zu, zd, zl, eu, ed, en]
      refine ⟨fun q => ⟨fun q2 => ⟨?_, ?_, ?_⟩, fun q2 => ?_⟩, fun q => ih (c + 1) _ _ _ (by omega) (S182_z s (Eq.mp lcp_e q))⟩
      · rw [s.2.2.1]; decide
      · intro e
        first
          | exact absurd (s.2.2.1.symm.trans e) (by decide)
          | exact ⟨⟨by omega, by omega⟩, ih (c + 1) _ _ _ (by omega) (S182_nx72 s (th.mp (Eq.mp lcp_e q2)) rfl (fun _ => w64_I (by rw [ey]; unfold R64; omega)))⟩
      · intro e
        first
          | exact absurd (s.2.2.1.symm.trans e) (by decide)
          | exact ⟨⟨by omega, by omega⟩, ih (c + 1) _ _ _ (by omega) (S182_nx72 s (th.mp (Eq.mp lcp_e q2)) rfl (fun _ => w64_I (by rw [ey]; unfold R64; omega)))⟩
      · have hh : Rw w n (eC x k c) = true := by
          cases hr : Rw w n (eC x k c)
          · exact absurd (th.mpr hr) (Eq.mp lcp_n q2)
          · rfl
        exact ih (c + 1) _ _ _ (by omega) (S182_hit72 s hh (by rw [w64_I (by rw [s.2.2.2.2.2]; unfold R64; omega)]))
  have zr1 : ZR 49 h w n := zr.fr s.1 (by unfold f181; omega) (by unfold f181; omega) (fun a j a1 a2 => by unfold f181; omega)
  have L15 : ∀ (j a : Nat) (z12 : aV), a + j = k → Wp X 1 182 15 [vr 69, vr 49, vi x, vi k, vl (V x), vu, vi ((8 : Int) ^ k2 - 1), vl (lg (pkH (cl1 w n (gab w n) x a) 8)), vu, vl (lg (pkH (cl1 w n (gbl w n) x a) 8)), vu, vi ((a : Int) + 1), z12, vu] [] h (fun v h1 => v = none ∧ S182 72 73 h0 h1 wt V (fun x c => Rw w n (eC x k c)) (fun x c => (8 * x + c) % 8 ^ k2) N N' (x + 1) 0) := by
    intro j
    induction j with
    | zero =>
      intro a z12 ha
      have ha : a = k := by omega
      subst ha
      exact S182_69_49_15 _ _ _ _ _ _ _ _ ⟨fun _ => LC 8 0 h _ _ rfl s, fun q => absurd q (by omega)⟩
    | succ j ih =>
      intro a z12 ha
      have dg := dgC (x := x) (a := a) (by omega) (by omega)
      have d8 : x / 8 ^ a % 8 < 8 := Nat.mod_lt _ (by decide)
      have zc := zr1.2.2.1 (x / 8 ^ a % 8) (by omega)
      have zu : h 50 ((x / 8 ^ a % 8 : Nat) : Int) = lg (pkH (gab w n (x / 8 ^ a % 8)) 8) := zc.1
      have zd : h 51 ((x / 8 ^ a % 8 : Nat) : Int) = lg (pkH (gbl w n (x / 8 ^ a % 8)) 8) := zc.2
      have zl : h 52 ((a : Int) + 1) = lg (pkH (gsl w n (a + 1)) 8) := zr1.2.2.2 (a + 1) (by omega)
      have eu : w64 (lg (pkH (cl1 w n (gab w n) x a) 8) + (i64 (lg (pkH (gab w n (x / 8 ^ a % 8)) 8)) &&& i64 (lg (pkH (gsl w n (a + 1)) 8))).toInt) = lg (pkH (cl1 w n (gab w n) x (a + 1)) 8) := by
        rw [lg_and, pkH_and gab_lt gsl_lt, lg_add, pkH_add]; rfl
      have ed : w64 (lg (pkH (cl1 w n (gbl w n) x a) 8) + (i64 (lg (pkH (gbl w n (x / 8 ^ a % 8)) 8)) &&& i64 (lg (pkH (gsl w n (a + 1)) 8))).toInt) = lg (pkH (cl1 w n (gbl w n) x (a + 1)) 8) := by
        rw [lg_and, pkH_and gbl_lt gsl_lt, lg_add, pkH_add]; rfl
      refine S182_69_49_15 _ _ _ _ _ _ _ _ ⟨fun q => absurd q (by omega), fun _ => ⟨by unfold R32; omega, by unfold R32; omega, ?_⟩⟩
      rw [dg]
      refine ⟨fun q => absurd q (by omega), fun _ => ⟨fun q => absurd q (by omega), fun _ => ⟨fun q => absurd q (by omega), fun _ => ⟨fun _ => ?_, fun q => absurd q (by omega)⟩⟩⟩⟩
      rw [zu, zd, zl, eu, ed]
      exact ih (a + 1) _ (by omega)
  have g := L15 k 0 vu (Nat.zero_add k)
  have e0 : ∀ g : Nat → Nat → Nat, pkH (cl1 w n g x 0) 8 = pkH (gst w n) 8 := fun g => pkH_cg fun i _ => rfl
  rw [e0, e0, ← zr1.1] at g
  exact S182_69_49_0 _ _ _ _ g
/-- a step of the class -/
theorem K181_49_72 {h0 : HP} {w : Int → Int} {n : Nat} {wt V : Nat → Int} {k k2 : Nat} (z : Zok w n) (zr : ZR 49 h0 w n) (hwt : ∀ c : Nat, c < 8 → h0 71 c = wt c) (hk : k ≤ 4) (hk2 : k2 ≤ 4) (e2 : h0 69 2 = 72) (e3 : h0 69 3 = 73) (hV : ∀ x : Nat, x < 8 ^ k → h0 72 x = V x) (Bd : B182 wt V (fun x c => Rw w n (eC x k c)) (fun x c => (8 * x + c) % 8 ^ k2) (8 ^ k)) : Wp X 2 181 0 [vr 69, vr 49, vi k, vi k2, vu, vu, vu] [] h0 (fun v h1 => v = none ∧ Fr f181 h0 h1 ∧ h1 69 2 = 73 ∧ h1 69 3 = 72 ∧ (∀ y : Nat, y < 8 ^ k2 → h1 73 y = pG (zV V wt (fun x c => Rw w n (eC x k c)) (fun x c => (8 * x + c) % 8 ^ k2) y) (8 ^ k) 0) ∧ h1 69 4 = pG (zJ V wt (fun x c => Rw w n (eC x k c))) (8 ^ k) 0) := by
  have pw : ∀ q : Nat, q ≤ 4 → 8 ^ q ≤ 4096 ∧ (8 : Int) ^ q = ((8 ^ q : Nat) : Int) ∧ 2 ^ (3 * q) = 8 ^ q := by
    intro q hq
    rcases (show q = 0 ∨ q = 1 ∨ q = 2 ∨ q = 3 ∨ q = 4 by omega) with e | e | e | e | e <;> rw [e] <;> decide
  have pk := pw k hk
  have pk2 := pw k2 hk2
  have sz : ∀ q : Nat, q ≤ 4 → (i32 1 <<< (i32 (3 * (q : Int)) &&& 31)).toInt = ((8 ^ q : Nat) : Int) := by
    intro q hq
    have e := shl_N (k := 3 * q) (by omega)
    rw [(pw q hq).2.2] at e
    rw [show (3 : Int) * (q : Int) = ((3 * q : Nat) : Int) by omega]
    exact e
  -- the pairs
  have LX : ∀ (j x : Nat) (h : HP) (z3 : aV), x + j = 8 ^ k → S182 72 73 h0 h wt V (fun x c => Rw w n (eC x k c)) (fun x c => (8 * x + c) % 8 ^ k2) (8 ^ k) (8 ^ k2) x 0 → Wp X 2 181 58 [vr 69, vr 49, vi k, z3, vi ((8 ^ k : Nat) : Int), vi ((8 : Int) ^ k2), vi x] [] h (fun v h1 => v = none ∧ Fr f181 h0 h1 ∧ h1 69 2 = 73 ∧ h1 69 3 = 72 ∧ (∀ y : Nat, y < 8 ^ k2 → h1 73 y = pG (zV V wt (fun x c => Rw w n (eC x k c)) (fun x c => (8 * x + c) % 8 ^ k2) y) (8 ^ k) 0) ∧ h1 69 4 = pG (zJ V wt (fun x c => Rw w n (eC x k c))) (8 ^ k) 0) := by
    intro j
    induction j with
    | zero =>
      intro x h z3 hx s
      have hx : x = 8 ^ k := by omega
      have s2 : h 69 2 = 72 := s.2.1
      have s3 : h 69 3 = 73 := s.2.2.1
      have fin : ∀ p q : Int, p = 73 → q = 72 → (none : Option aV) = none ∧ Fr f181 h0 (upd2 (upd2 h 69 2 p) 69 3 q) ∧ (upd2 (upd2 h 69 2 p) 69 3 q) 69 2 = 73 ∧ (upd2 (upd2 h 69 2 p) 69 3 q) 69 3 = 72 ∧ (∀ y : Nat, y < 8 ^ k2 → (upd2 (upd2 h 69 2 p) 69 3 q) 73 y = pG (zV V wt (fun x c => Rw w n (eC x k c)) (fun x c => (8 * x + c) % 8 ^ k2) y) (8 ^ k) 0) ∧ (upd2 (upd2 h 69 2 p) 69 3 q) 69 4 = pG (zJ V wt (fun x c => Rw w n (eC x k c))) (8 ^ k) 0 := by
        intro p q hp hq
        refine ⟨rfl, (s.1.up (by unfold f181; decide)).up (by unfold f181; decide), ?_, ?_, fun y hy => ?_, ?_⟩
        · rw [upd2_o (by decide), upd2_s]; exact hp
        · rw [upd2_s]; exact hq
        · rw [upd2_ne (by decide), upd2_ne (by decide), ← hx]; exact s.2.2.2.2.1 y hy
        · rw [upd2_o (by decide), upd2_o (by decide), ← hx]; exact s.2.2.2.2.2
      refine S181_69_49_58 _ _ _ _ _ ⟨fun _ => ⟨by rw [s2]; decide, fun a => ⟨by rw [s3]; decide, fun c => ?_, fun c => ?_⟩, fun a => ⟨by rw [s3]; decide, fun c => ?_, fun c => ?_⟩⟩, fun q => absurd q (by omega)⟩
      all_goals
        first
          | exact absurd (s2.symm.trans a) (by decide)
          | exact absurd (s3.symm.trans c) (by decide)
          | exact fin _ _ rfl rfl
    | succ j ih =>
      intro x h z3 hx s
      have s2 : h 69 2 = 72 := s.2.1
      have eV := s.2.2.2.1 x (by omega)
      have go : (0 ≤ (x : Int) ∧ (x : Int) < 4096) ∧ (((lcp (h 72 x) 0) = 0 → Wp X 2 181 96 [vr 69, vr 49, vi k, z3, vi ((8 ^ k : Nat) : Int), vi ((8 : Int) ^ k2), vi x] [] h (fun v h1 => v = none ∧ Fr f181 h0 h1 ∧ h1 69 2 = 73 ∧ h1 69 3 = 72 ∧ (∀ y : Nat, y < 8 ^ k2 → h1 73 y = pG (zV V wt (fun x c => Rw w n (eC x k c)) (fun x c => (8 * x + c) % 8 ^ k2) y) (8 ^ k) 0) ∧ h1 69 4 = pG (zJ V wt (fun x c => Rw w n (eC x k c))) (8 ^ k) 0)) ∧ ((lcp (h 72 x) 0) ≠ 0 → (R32 ((8 : Int) ^ k2 - 1)) ∧ Wp X 1 182 0 [vr 69, vr 49, vi x, vi k, vl (h 72 x), vu, vi ((8 : Int) ^ k2 - 1), vu, vu, vu, vu, vu, vu, vu] [] h (fun v h' => Wp X 2 181 96 [vr 69, vr 49, vi k, z3, vi ((8 ^ k : Nat) : Int), vi ((8 : Int) ^ k2), vi x] (psh v []) h' (fun v h1 => v = none ∧ Fr f181 h0 h1 ∧ h1 69 2 = 73 ∧ h1 69 3 = 72 ∧ (∀ y : Nat, y < 8 ^ k2 → h1 73 y = pG (zV V wt (fun x c => Rw w n (eC x k c)) (fun x c => (8 * x + c) % 8 ^ k2) y) (8 ^ k) 0) ∧ h1 69 4 = pG (zJ V wt (fun x c => Rw w n (eC x k c))) (8 ^ k) 0)))) := by
        refine ⟨⟨by omega, by omega⟩, fun q => ?_, fun q => ⟨by rw [pk2.2.1]; have := Int.natCast_nonneg (8 ^ k2); have := Int.ofNat_le.mpr pk2.1; unfold R32; omega, ?_⟩⟩
        · exact S181_69_49_96 _ _ _ _ _ ⟨by unfold R32; omega, ih (x + 1) h _ (by omega) (S182_skip s (by have := Eq.mp lcp_e q; omega))⟩
        · rw [eV]
          refine (K182_49_72 z zr hwt hk hk2 pk.1 rfl (by omega) Bd s).mono fun v h1 _ f => ?_
          obtain ⟨rfl, s1⟩ := f
          exact S181_69_49_96 _ _ _ _ _ ⟨by unfold R32; omega, ih (x + 1) h1 _ (by omega) s1⟩
      refine S181_69_49_58 _ _ _ _ _ ⟨fun q => absurd q (by omega), fun _ => ⟨by rw [s2]; decide, fun a => ?_, fun a => ?_⟩⟩
      all_goals
        first
          | exact absurd (s2.symm.trans a) (by decide)
          | exact go
  -- then is made empty
  have LZ : ∀ (j y : Nat) (h : HP) (z3 : aV), y + j = 8 ^ k2 → Fr f181 h0 h → h 69 2 = 72 → h 69 3 = 73 → (∀ x : Nat, x < 8 ^ k → h 72 x = V x) → (∀ i : Nat, i < y → h 73 i = 0) → Wp X 2 181 29 [vr 69, vr 49, vi k, z3, vi ((8 ^ k : Nat) : Int), vi ((8 : Int) ^ k2), vi y] [] h (fun v h1 => v = none ∧ Fr f181 h0 h1 ∧ h1 69 2 = 73 ∧ h1 69 3 = 72 ∧ (∀ y : Nat, y < 8 ^ k2 → h1 73 y = pG (zV V wt (fun x c => Rw w n (eC x k c)) (fun x c => (8 * x + c) % 8 ^ k2) y) (8 ^ k) 0) ∧ h1 69 4 = pG (zJ V wt (fun x c => Rw w n (eC x k c))) (8 ^ k) 0) := by
    intro j
    induction j with
    | zero =>
      intro y h z3 hy F s2 s3 sA sB
      refine S181_69_49_29 _ _ _ _ _ ⟨fun _ => ?_, fun q => absurd q (by rw [pk2.2.1]; omega)⟩
      exact LX (8 ^ k) 0 _ _ (Nat.zero_add _) ⟨F.up (by unfold f181; decide), (upd2_o (by decide)).trans s2, (upd2_o (by decide)).trans s3, fun x hx => (congrFun (upd2_ne (by decide)) _).trans (sA x hx), fun i hi => (congrFun (upd2_ne (by decide)) _).trans (sB i (by omega)), upd2_s⟩
    | succ j ih =>
      intro y h z3 hy F s2 s3 sA sB
      have go : (0 ≤ (y : Int) ∧ (y : Int) < 4096) ∧ Wp X 2 181 29 [vr 69, vr 49, vi k, z3, vi ((8 ^ k : Nat) : Int), vi ((8 : Int) ^ k2), vi ((y : Int) + 1)] [] (upd2 h 73 y 0) (fun v h1 => v = none ∧ Fr f181 h0 h1 ∧ h1 69 2 = 73 ∧ h1 69 3 = 72 ∧ (∀ y : Nat, y < 8 ^ k2 → h1 73 y = pG (zV V wt (fun x c => Rw w n (eC x k c)) (fun x c => (8 * x + c) % 8 ^ k2) y) (8 ^ k) 0) ∧ h1 69 4 = pG (zJ V wt (fun x c => Rw w n (eC x k c))) (8 ^ k) 0) := by
        refine ⟨⟨by omega, by omega⟩, ih (y + 1) _ _ (by omega) (F.up (by unfold f181; omega)) ((congrFun (upd2_ne (by decide)) _).trans s2) ((congrFun (upd2_ne (by decide)) _).trans s3) (fun x hx => (congrFun (upd2_ne (by decide)) _).trans (sA x hx)) (fun i hi => ?_)⟩
        rw [upd2_at]
        by_cases q : i = y
        · rw [if_pos (by omega)]
        · rw [if_neg (by omega)]; exact sB i (by omega)
      refine S181_69_49_29 _ _ _ _ _ ⟨fun q => absurd q (by rw [pk2.2.1]; omega), fun _ => ⟨by rw [s3]; decide, fun a => ?_, fun a => ?_⟩⟩
      all_goals
        first
          | exact absurd (s3.symm.trans a) (by decide)
          | exact go
  have g := LZ (8 ^ k2) 0 h0 (vi k2) (Nat.zero_add _) Fr.rf e2 e3 hV (fun i hi => absurd hi (Nat.not_lt_zero i))
  have go : ∀ s1 s2 : Int, s1 = ((8 ^ k : Nat) : Int) → s2 = (8 : Int) ^ k2 → Wp X 2 181 29 [vr 69, vr 49, vi k, vi k2, vi s1, vi s2, vi 0] [] h0 (fun v h1 => v = none ∧ Fr f181 h0 h1 ∧ h1 69 2 = 73 ∧ h1 69 3 = 72 ∧ (∀ y : Nat, y < 8 ^ k2 → h1 73 y = pG (zV V wt (fun x c => Rw w n (eC x k c)) (fun x c => (8 * x + c) % 8 ^ k2) y) (8 ^ k) 0) ∧ h1 69 4 = pG (zJ V wt (fun x c => Rw w n (eC x k c))) (8 ^ k) 0) := by
    intro s1 s2 h1 h2
    rw [h1, h2]
    exact g
  refine S181_69_49_0 _ _ ?_
  rw [sz k hk, sz k2 hk2]
  exact ⟨by unfold R32; omega, fun q => ⟨by unfold R32; omega, fun q2 => go _ _ rfl (by omega), fun q2 => go _ _ rfl (by omega)⟩, fun q => ⟨by unfold R32; omega, fun q2 => go _ _ (by omega) (by omega), fun q2 => go _ _ (by omega) (by omega)⟩⟩
/-- a history goes on by every class -/
theorem K182_57_72 {h0 h : HP} {w : Int → Int} {n : Nat} {wt V : Nat → Int} {N N' k k2 x : Nat} (z : Zok w n) (zr : ZR 57 h0 w n) (hwt : ∀ c : Nat, c < 8 → h0 71 c = wt c) (hk : k ≤ 4) (hk2 : k2 ≤ 4) (hN : N ≤ 4096) (hN' : N' = 8 ^ k2) (hx : x < N) (Bd : B182 wt V (fun x c => Rw w n (eC x k c)) (fun x c => (8 * x + c) % 8 ^ k2) N) (s : S182 72 73 h0 h wt V (fun x c => Rw w n (eC x k c)) (fun x c => (8 * x + c) % 8 ^ k2) N N' x 0) : Wp X 1 182 0 [vr 69, vr 57, vi x, vi k, vl (V x), vu, vi ((8 : Int) ^ k2 - 1), vu, vu, vu, vu, vu, vu, vu] [] h (fun v h1 => v = none ∧ S182 72 73 h0 h1 wt V (fun x c => Rw w n (eC x k c)) (fun x c => (8 * x + c) % 8 ^ k2) N N' (x + 1) 0) := by
  have LC : ∀ (j c : Nat) (h : HP) (z3 z12 : aV), c + j = 8 → S182 72 73 h0 h wt V (fun x c => Rw w n (eC x k c)) (fun x c => (8 * x + c) % 8 ^ k2) N N' x c → Wp X 1 182 69 [vr 69, vr 57, vi x, z3, vl (V x), vu, vi ((8 : Int) ^ k2 - 1), vl (lg (pkH (cl1 w n (gab w n) x k) 8)), vu, vl (lg (pkH (cl1 w n (gbl w n) x k) 8)), vu, vi c, z12, vu] [] h (fun v h1 => v = none ∧ S182 72 73 h0 h1 wt V (fun x c => Rw w n (eC x k c)) (fun x c => (8 * x + c) % 8 ^ k2) N N' (x + 1) 0) := by
    intro j
    induction j with
    | zero =>
      intro c h z3 z12 hc s
      have hc : c = 8 := by omega
      subst hc
      exact S182_69_57_69 _ _ _ _ _ _ _ _ ⟨fun _ => ⟨rfl, S182_row s⟩, fun q => absurd q (by omega)⟩
    | succ j ih =>
      intro c h z3 z12 hc s
      have zr1 : ZR 57 h w n := zr.fr s.1 (by unfold f181; omega) (by unfold f181; omega) (fun a j a1 a2 => by unfold f181; omega)
      have ew : h 71 c = wt c := (s.1 71 c (by unfold f181; omega)).trans (hwt c (by omega))
      have bV := Bd.1 x
      have bw := Bd.2.1 c (by omega)
      have bm := mulB' bV.1 bV.2 bw.1 bw.2
      have bb := Bd.2.2 x c hx (by omega)
      have wv : w64 (V x * wt c) = V x * wt c := w64_I (by unfold R64; omega)
      have zc := zr1.2.2.1 c (by omega)
      have zu : h 58 (c : Int) = lg (pkH (gab w n c) 8) := zc.1
      have zd : h 59 (c : Int) = lg (pkH (gbl w n c) 8) := zc.2
      have zl : h 60 0 = lg (pkH (gsl w n 0) 8) := zr1.2.2.2 0 (by omega)
      have eu : w64 (lg (pkH (cl1 w n (gab w n) x k) 8) + (i64 (lg (pkH (gab w n c) 8)) &&& i64 (lg (pkH (gsl w n 0) 8))).toInt) = lg (pkH (cl2 w n (gab w n) x k c) 8) := by
        rw [lg_and, pkH_and gab_lt gsl_lt, lg_add, pkH_add]; rfl
      have ed : w64 (lg (pkH (cl1 w n (gbl w n) x k) 8) + (i64 (lg (pkH (gbl w n c) 8)) &&& i64 (lg (pkH (gsl w n 0) 8))).toInt) = lg (pkH (cl2 w n (gbl w n) x k c) 8) := by
        rw [lg_and, pkH_and gbl_lt gsl_lt, lg_add, pkH_add]; rfl
      have th := top_hit z (x := x) (k := k) (c := c)
      have en := nx_N (x := x) (c := c) (k := k2) (by omega) (by omega) hk2
      have p8 : 8 ^ k2 ≤ 4096 := by
        rcases (show k2 = 0 ∨ k2 = 1 ∨ k2 = 2 ∨ k2 = 3 ∨ k2 = 4 by omega) with q | q | q | q | q <;> rw [q] <;> decide
      have lt : (8 * x + c) % 8 ^ k2 < 8 ^ k2 := Nat.mod_lt _ (Nat.pow_pos (by decide))
      have ey := s.2.2.2.2.1 ((8 * x + c) % 8 ^ k2) (by omega)
      have by' := bb.1 ((8 * x + c) % 8 ^ k2)
      refine S182_69_57_69 _ _ _ _ _ _ _ _ ⟨fun q => absurd q (by omega), fun _ => ⟨⟨by omega, by omega⟩, ?_⟩⟩
      rw [ew, wv, zu, zd, zl, eu, ed, en]
      refine ⟨fun q => ⟨fun q2 => ⟨?_, ?_, ?_⟩, fun q2 => ?_⟩, fun q => ih (c + 1) _ _ _ (by omega) (S182_z s (Eq.mp lcp_e q))⟩
      · rw [s.2.2.1]; decide
      · intro e
        first
          | exact absurd (s.2.2.1.symm.trans e) (by decide)
          | exact ⟨⟨by omega, by omega⟩, ih (c + 1) _ _ _ (by omega) (S182_nx72 s (th.mp (Eq.mp lcp_e q2)) rfl (fun _ => w64_I (by rw [ey]; unfold R64; omega)))⟩
      · intro e
        first
          | exact absurd (s.2.2.1.symm.trans e) (by decide)
          | exact ⟨⟨by omega, by omega⟩, ih (c + 1) _ _ _ (by omega) (S182_nx72 s (th.mp (Eq.mp lcp_e q2)) rfl (fun _ => w64_I (by rw [ey]; unfold R64; omega)))⟩
      · have hh : Rw w n (eC x k c) = true := by
          cases hr : Rw w n (eC x k c)
          · exact absurd (th.mpr hr) (Eq.mp lcp_n q2)
          · rfl
        exact ih (c + 1) _ _ _ (by omega) (S182_hit72 s hh (by rw [w64_I (by rw [s.2.2.2.2.2]; unfold R64; omega)]))
  have zr1 : ZR 57 h w n := zr.fr s.1 (by unfold f181; omega) (by unfold f181; omega) (fun a j a1 a2 => by unfold f181; omega)
  have L15 : ∀ (j a : Nat) (z12 : aV), a + j = k → Wp X 1 182 15 [vr 69, vr 57, vi x, vi k, vl (V x), vu, vi ((8 : Int) ^ k2 - 1), vl (lg (pkH (cl1 w n (gab w n) x a) 8)), vu, vl (lg (pkH (cl1 w n (gbl w n) x a) 8)), vu, vi ((a : Int) + 1), z12, vu] [] h (fun v h1 => v = none ∧ S182 72 73 h0 h1 wt V (fun x c => Rw w n (eC x k c)) (fun x c => (8 * x + c) % 8 ^ k2) N N' (x + 1) 0) := by
    intro j
    induction j with
    | zero =>
      intro a z12 ha
      have ha : a = k := by omega
      subst ha
      exact S182_69_57_15 _ _ _ _ _ _ _ _ ⟨fun _ => LC 8 0 h _ _ rfl s, fun q => absurd q (by omega)⟩
    | succ j ih =>
      intro a z12 ha
      have dg := dgC (x := x) (a := a) (by omega) (by omega)
      have d8 : x / 8 ^ a % 8 < 8 := Nat.mod_lt _ (by decide)
      have zc := zr1.2.2.1 (x / 8 ^ a % 8) (by omega)
      have zu : h 58 ((x / 8 ^ a % 8 : Nat) : Int) = lg (pkH (gab w n (x / 8 ^ a % 8)) 8) := zc.1
      have zd : h 59 ((x / 8 ^ a % 8 : Nat) : Int) = lg (pkH (gbl w n (x / 8 ^ a % 8)) 8) := zc.2
      have zl : h 60 ((a : Int) + 1) = lg (pkH (gsl w n (a + 1)) 8) := zr1.2.2.2 (a + 1) (by omega)
      have eu : w64 (lg (pkH (cl1 w n (gab w n) x a) 8) + (i64 (lg (pkH (gab w n (x / 8 ^ a % 8)) 8)) &&& i64 (lg (pkH (gsl w n (a + 1)) 8))).toInt) = lg (pkH (cl1 w n (gab w n) x (a + 1)) 8) := by
        rw [lg_and, pkH_and gab_lt gsl_lt, lg_add, pkH_add]; rfl
      have ed : w64 (lg (pkH (cl1 w n (gbl w n) x a) 8) + (i64 (lg (pkH (gbl w n (x / 8 ^ a % 8)) 8)) &&& i64 (lg (pkH (gsl w n (a + 1)) 8))).toInt) = lg (pkH (cl1 w n (gbl w n) x (a + 1)) 8) := by
        rw [lg_and, pkH_and gbl_lt gsl_lt, lg_add, pkH_add]; rfl
      refine S182_69_57_15 _ _ _ _ _ _ _ _ ⟨fun q => absurd q (by omega), fun _ => ⟨by unfold R32; omega, by unfold R32; omega, ?_⟩⟩
      rw [dg]
      refine ⟨fun q => absurd q (by omega), fun _ => ⟨fun q => absurd q (by omega), fun _ => ⟨fun q => absurd q (by omega), fun _ => ⟨fun _ => ?_, fun q => absurd q (by omega)⟩⟩⟩⟩
      rw [zu, zd, zl, eu, ed]
      exact ih (a + 1) _ (by omega)
  have g := L15 k 0 vu (Nat.zero_add k)
  have e0 : ∀ g : Nat → Nat → Nat, pkH (cl1 w n g x 0) 8 = pkH (gst w n) 8 := fun g => pkH_cg fun i _ => rfl
  rw [e0, e0, ← zr1.1] at g
  exact S182_69_57_0 _ _ _ _ g
/-- a step of the class -/
theorem K181_57_72 {h0 : HP} {w : Int → Int} {n : Nat} {wt V : Nat → Int} {k k2 : Nat} (z : Zok w n) (zr : ZR 57 h0 w n) (hwt : ∀ c : Nat, c < 8 → h0 71 c = wt c) (hk : k ≤ 4) (hk2 : k2 ≤ 4) (e2 : h0 69 2 = 72) (e3 : h0 69 3 = 73) (hV : ∀ x : Nat, x < 8 ^ k → h0 72 x = V x) (Bd : B182 wt V (fun x c => Rw w n (eC x k c)) (fun x c => (8 * x + c) % 8 ^ k2) (8 ^ k)) : Wp X 2 181 0 [vr 69, vr 57, vi k, vi k2, vu, vu, vu] [] h0 (fun v h1 => v = none ∧ Fr f181 h0 h1 ∧ h1 69 2 = 73 ∧ h1 69 3 = 72 ∧ (∀ y : Nat, y < 8 ^ k2 → h1 73 y = pG (zV V wt (fun x c => Rw w n (eC x k c)) (fun x c => (8 * x + c) % 8 ^ k2) y) (8 ^ k) 0) ∧ h1 69 4 = pG (zJ V wt (fun x c => Rw w n (eC x k c))) (8 ^ k) 0) := by
  have pw : ∀ q : Nat, q ≤ 4 → 8 ^ q ≤ 4096 ∧ (8 : Int) ^ q = ((8 ^ q : Nat) : Int) ∧ 2 ^ (3 * q) = 8 ^ q := by
    intro q hq
    rcases (show q = 0 ∨ q = 1 ∨ q = 2 ∨ q = 3 ∨ q = 4 by omega) with e | e | e | e | e <;> rw [e] <;> decide
  have pk := pw k hk
  have pk2 := pw k2 hk2
  have sz : ∀ q : Nat, q ≤ 4 → (i32 1 <<< (i32 (3 * (q : Int)) &&& 31)).toInt = ((8 ^ q : Nat) : Int) := by
    intro q hq
    have e := shl_N (k := 3 * q) (by omega)
    rw [(pw q hq).2.2] at e
    rw [show (3 : Int) * (q : Int) = ((3 * q : Nat) : Int) by omega]
    exact e
  -- the pairs
  have LX : ∀ (j x : Nat) (h : HP) (z3 : aV), x + j = 8 ^ k → S182 72 73 h0 h wt V (fun x c => Rw w n (eC x k c)) (fun x c => (8 * x + c) % 8 ^ k2) (8 ^ k) (8 ^ k2) x 0 → Wp X 2 181 58 [vr 69, vr 57, vi k, z3, vi ((8 ^ k : Nat) : Int), vi ((8 : Int) ^ k2), vi x] [] h (fun v h1 => v = none ∧ Fr f181 h0 h1 ∧ h1 69 2 = 73 ∧ h1 69 3 = 72 ∧ (∀ y : Nat, y < 8 ^ k2 → h1 73 y = pG (zV V wt (fun x c => Rw w n (eC x k c)) (fun x c => (8 * x + c) % 8 ^ k2) y) (8 ^ k) 0) ∧ h1 69 4 = pG (zJ V wt (fun x c => Rw w n (eC x k c))) (8 ^ k) 0) := by
    intro j
    induction j with
    | zero =>
      intro x h z3 hx s
      have hx : x = 8 ^ k := by omega
      have s2 : h 69 2 = 72 := s.2.1
      have s3 : h 69 3 = 73 := s.2.2.1
      have fin : ∀ p q : Int, p = 73 → q = 72 → (none : Option aV) = none ∧ Fr f181 h0 (upd2 (upd2 h 69 2 p) 69 3 q) ∧ (upd2 (upd2 h 69 2 p) 69 3 q) 69 2 = 73 ∧ (upd2 (upd2 h 69 2 p) 69 3 q) 69 3 = 72 ∧ (∀ y : Nat, y < 8 ^ k2 → (upd2 (upd2 h 69 2 p) 69 3 q) 73 y = pG (zV V wt (fun x c => Rw w n (eC x k c)) (fun x c => (8 * x + c) % 8 ^ k2) y) (8 ^ k) 0) ∧ (upd2 (upd2 h 69 2 p) 69 3 q) 69 4 = pG (zJ V wt (fun x c => Rw w n (eC x k c))) (8 ^ k) 0 := by
        intro p q hp hq
        refine ⟨rfl, (s.1.up (by unfold f181; decide)).up (by unfold f181; decide), ?_, ?_, fun y hy => ?_, ?_⟩
        · rw [upd2_o (by decide), upd2_s]; exact hp
        · rw [upd2_s]; exact hq
        · rw [upd2_ne (by decide), upd2_ne (by decide), ← hx]; exact s.2.2.2.2.1 y hy
        · rw [upd2_o (by decide), upd2_o (by decide), ← hx]; exact s.2.2.2.2.2
      refine S181_69_57_58 _ _ _ _ _ ⟨fun _ => ⟨by rw [s2]; decide, fun a => ⟨by rw [s3]; decide, fun c => ?_, fun c => ?_⟩, fun a => ⟨by rw [s3]; decide, fun c => ?_, fun c => ?_⟩⟩, fun q => absurd q (by omega)⟩
      all_goals
        first
          | exact absurd (s2.symm.trans a) (by decide)
          | exact absurd (s3.symm.trans c) (by decide)
          | exact fin _ _ rfl rfl
    | succ j ih =>
      intro x h z3 hx s
      have s2 : h 69 2 = 72 := s.2.1
      have eV := s.2.2.2.1 x (by omega)
      have go : (0 ≤ (x : Int) ∧ (x : Int) < 4096) ∧ (((lcp (h 72 x) 0) = 0 → Wp X 2 181 96 [vr 69, vr 57, vi k, z3, vi ((8 ^ k : Nat) : Int), vi ((8 : Int) ^ k2), vi x] [] h (fun v h1 => v = none ∧ Fr f181 h0 h1 ∧ h1 69 2 = 73 ∧ h1 69 3 = 72 ∧ (∀ y : Nat, y < 8 ^ k2 → h1 73 y = pG (zV V wt (fun x c => Rw w n (eC x k c)) (fun x c => (8 * x + c) % 8 ^ k2) y) (8 ^ k) 0) ∧ h1 69 4 = pG (zJ V wt (fun x c => Rw w n (eC x k c))) (8 ^ k) 0)) ∧ ((lcp (h 72 x) 0) ≠ 0 → (R32 ((8 : Int) ^ k2 - 1)) ∧ Wp X 1 182 0 [vr 69, vr 57, vi x, vi k, vl (h 72 x), vu, vi ((8 : Int) ^ k2 - 1), vu, vu, vu, vu, vu, vu, vu] [] h (fun v h' => Wp X 2 181 96 [vr 69, vr 57, vi k, z3, vi ((8 ^ k : Nat) : Int), vi ((8 : Int) ^ k2), vi x] (psh v []) h' (fun v h1 => v = none ∧ Fr f181 h0 h1 ∧ h1 69 2 = 73 ∧ h1 69 3 = 72 ∧ (∀ y : Nat, y < 8 ^ k2 → h1 73 y = pG (zV V wt (fun x c => Rw w n (eC x k c)) (fun x c => (8 * x + c) % 8 ^ k2) y) (8 ^ k) 0) ∧ h1 69 4 = pG (zJ V wt (fun x c => Rw w n (eC x k c))) (8 ^ k) 0)))) := by
        refine ⟨⟨by omega, by omega⟩, fun q => ?_, fun q => ⟨by rw [pk2.2.1]; have := Int.natCast_nonneg (8 ^ k2); have := Int.ofNat_le.mpr pk2.1; unfold R32; omega, ?_⟩⟩
        · exact S181_69_57_96 _ _ _ _ _ ⟨by unfold R32; omega, ih (x + 1) h _ (by omega) (S182_skip s (by have := Eq.mp lcp_e q; omega))⟩
        · rw [eV]
          refine (K182_57_72 z zr hwt hk hk2 pk.1 rfl (by omega) Bd s).mono fun v h1 _ f => ?_
          obtain ⟨rfl, s1⟩ := f
          exact S181_69_57_96 _ _ _ _ _ ⟨by unfold R32; omega, ih (x + 1) h1 _ (by omega) s1⟩
      refine S181_69_57_58 _ _ _ _ _ ⟨fun q => absurd q (by omega), fun _ => ⟨by rw [s2]; decide, fun a => ?_, fun a => ?_⟩⟩
      all_goals
        first
          | exact absurd (s2.symm.trans a) (by decide)
          | exact go
  -- then is made empty
  have LZ : ∀ (j y : Nat) (h : HP) (z3 : aV), y + j = 8 ^ k2 → Fr f181 h0 h → h 69 2 = 72 → h 69 3 = 73 → (∀ x : Nat, x < 8 ^ k → h 72 x = V x) → (∀ i : Nat, i < y → h 73 i = 0) → Wp X 2 181 29 [vr 69, vr 57, vi k, z3, vi ((8 ^ k : Nat) : Int), vi ((8 : Int) ^ k2), vi y] [] h (fun v h1 => v = none ∧ Fr f181 h0 h1 ∧ h1 69 2 = 73 ∧ h1 69 3 = 72 ∧ (∀ y : Nat, y < 8 ^ k2 → h1 73 y = pG (zV V wt (fun x c => Rw w n (eC x k c)) (fun x c => (8 * x + c) % 8 ^ k2) y) (8 ^ k) 0) ∧ h1 69 4 = pG (zJ V wt (fun x c => Rw w n (eC x k c))) (8 ^ k) 0) := by
    intro j
    induction j with
    | zero =>
      intro y h z3 hy F s2 s3 sA sB
      refine S181_69_57_29 _ _ _ _ _ ⟨fun _ => ?_, fun q => absurd q (by rw [pk2.2.1]; omega)⟩
      exact LX (8 ^ k) 0 _ _ (Nat.zero_add _) ⟨F.up (by unfold f181; decide), (upd2_o (by decide)).trans s2, (upd2_o (by decide)).trans s3, fun x hx => (congrFun (upd2_ne (by decide)) _).trans (sA x hx), fun i hi => (congrFun (upd2_ne (by decide)) _).trans (sB i (by omega)), upd2_s⟩
    | succ j ih =>
      intro y h z3 hy F s2 s3 sA sB
      have go : (0 ≤ (y : Int) ∧ (y : Int) < 4096) ∧ Wp X 2 181 29 [vr 69, vr 57, vi k, z3, vi ((8 ^ k : Nat) : Int), vi ((8 : Int) ^ k2), vi ((y : Int) + 1)] [] (upd2 h 73 y 0) (fun v h1 => v = none ∧ Fr f181 h0 h1 ∧ h1 69 2 = 73 ∧ h1 69 3 = 72 ∧ (∀ y : Nat, y < 8 ^ k2 → h1 73 y = pG (zV V wt (fun x c => Rw w n (eC x k c)) (fun x c => (8 * x + c) % 8 ^ k2) y) (8 ^ k) 0) ∧ h1 69 4 = pG (zJ V wt (fun x c => Rw w n (eC x k c))) (8 ^ k) 0) := by
        refine ⟨⟨by omega, by omega⟩, ih (y + 1) _ _ (by omega) (F.up (by unfold f181; omega)) ((congrFun (upd2_ne (by decide)) _).trans s2) ((congrFun (upd2_ne (by decide)) _).trans s3) (fun x hx => (congrFun (upd2_ne (by decide)) _).trans (sA x hx)) (fun i hi => ?_)⟩
        rw [upd2_at]
        by_cases q : i = y
        · rw [if_pos (by omega)]
        · rw [if_neg (by omega)]; exact sB i (by omega)
      refine S181_69_57_29 _ _ _ _ _ ⟨fun q => absurd q (by rw [pk2.2.1]; omega), fun _ => ⟨by rw [s3]; decide, fun a => ?_, fun a => ?_⟩⟩
      all_goals
        first
          | exact absurd (s3.symm.trans a) (by decide)
          | exact go
  have g := LZ (8 ^ k2) 0 h0 (vi k2) (Nat.zero_add _) Fr.rf e2 e3 hV (fun i hi => absurd hi (Nat.not_lt_zero i))
  have go : ∀ s1 s2 : Int, s1 = ((8 ^ k : Nat) : Int) → s2 = (8 : Int) ^ k2 → Wp X 2 181 29 [vr 69, vr 57, vi k, vi k2, vi s1, vi s2, vi 0] [] h0 (fun v h1 => v = none ∧ Fr f181 h0 h1 ∧ h1 69 2 = 73 ∧ h1 69 3 = 72 ∧ (∀ y : Nat, y < 8 ^ k2 → h1 73 y = pG (zV V wt (fun x c => Rw w n (eC x k c)) (fun x c => (8 * x + c) % 8 ^ k2) y) (8 ^ k) 0) ∧ h1 69 4 = pG (zJ V wt (fun x c => Rw w n (eC x k c))) (8 ^ k) 0) := by
    intro s1 s2 h1 h2
    rw [h1, h2]
    exact g
  refine S181_69_57_0 _ _ ?_
  rw [sz k hk, sz k2 hk2]
  exact ⟨by unfold R32; omega, fun q => ⟨by unfold R32; omega, fun q2 => go _ _ rfl (by omega), fun q2 => go _ _ rfl (by omega)⟩, fun q => ⟨by unfold R32; omega, fun q2 => go _ _ (by omega) (by omega), fun q2 => go _ _ (by omega) (by omega)⟩⟩
/-- a history goes on by every class -/
theorem K182_49_73 {h0 h : HP} {w : Int → Int} {n : Nat} {wt V : Nat → Int} {N N' k k2 x : Nat} (z : Zok w n) (zr : ZR 49 h0 w n) (hwt : ∀ c : Nat, c < 8 → h0 71 c = wt c) (hk : k ≤ 4) (hk2 : k2 ≤ 4) (hN : N ≤ 4096) (hN' : N' = 8 ^ k2) (hx : x < N) (Bd : B182 wt V (fun x c => Rw w n (eC x k c)) (fun x c => (8 * x + c) % 8 ^ k2) N) (s : S182 73 72 h0 h wt V (fun x c => Rw w n (eC x k c)) (fun x c => (8 * x + c) % 8 ^ k2) N N' x 0) : Wp X 1 182 0 [vr 69, vr 49, vi x, vi k, vl (V x), vu, vi ((8 : Int) ^ k2 - 1), vu, vu, vu, vu, vu, vu, vu] [] h (fun v h1 => v = none ∧ S182 73 72 h0 h1 wt V (fun x c => Rw w n (eC x k c)) (fun x c => (8 * x + c) % 8 ^ k2) N N' (x + 1) 0) := by
  have LC : ∀ (j c : Nat) (h : HP) (z3 z12 : aV), c + j = 8 → S182 73 72 h0 h wt V (fun x c => Rw w n (eC x k c)) (fun x c => (8 * x + c) % 8 ^ k2) N N' x c → Wp X 1 182 69 [vr 69, vr 49, vi x, z3, vl (V x), vu, vi ((8 : Int) ^ k2 - 1), vl (lg (pkH (cl1 w n (gab w n) x k) 8)), vu, vl (lg (pkH (cl1 w n (gbl w n) x k) 8)), vu, vi c, z12, vu] [] h (fun v h1 => v = none ∧ S182 73 72 h0 h1 wt V (fun x c => Rw w n (eC x k c)) (fun x c => (8 * x + c) % 8 ^ k2) N N' (x + 1) 0) := by
    intro j
    induction j with
    | zero =>
      intro c h z3 z12 hc s
      have hc : c = 8 := by omega
      subst hc
      exact S182_69_49_69 _ _ _ _ _ _ _ _ ⟨fun _ => ⟨rfl, S182_row s⟩, fun q => absurd q (by omega)⟩
    | succ j ih =>
      intro c h z3 z12 hc s
      have zr1 : ZR 49 h w n := zr.fr s.1 (by unfold f181; omega) (by unfold f181; omega) (fun a j a1 a2 => by unfold f181; omega)
      have ew : h 71 c = wt c := (s.1 71 c (by unfold f181; omega)).trans (hwt c (by omega))
      have bV := Bd.1 x
      have bw := Bd.2.1 c (by omega)
      have bm := mulB' bV.1 bV.2 bw.1 bw.2
      have bb := Bd.2.2 x c hx (by omega)
      have wv : w64 (V x * wt c) = V x * wt c := w64_I (by unfold R64; omega)
      have zc := zr1.2.2.1 c (by omega)
      have zu : h 50 (c : Int) = lg (pkH (gab w n c) 8) := zc.1
      have zd : h 51 (c : Int) = lg (pkH (gbl w n c) 8) := zc.2
      have zl : h 52 0 = lg (pkH (gsl w n 0) 8) := zr1.2.2.2 0 (by omega)
      have eu : w64 (lg (pkH (cl1 w n (gab w n) x k) 8) + (i64 (lg (pkH (gab w n c) 8)) &&& i64 (lg (pkH (gsl w n 0) 8))).toInt) = lg (pkH (cl2 w n (gab w n) x k c) 8) := by
        rw [lg_and, pkH_and gab_lt gsl_lt, lg_add, pkH_add]; rfl
      have ed : w64 (lg (pkH (cl1 w n (gbl w n) x k) 8) + (i64 (lg (pkH (gbl w n c) 8)) &&& i64 (lg (pkH (gsl w n 0) 8))).toInt) = lg (pkH (cl2 w n (gbl w n) x k c) 8) := by
        rw [lg_and, pkH_and gbl_lt gsl_lt, lg_add, pkH_add]; rfl
      have th := top_hit z (x := x) (k := k) (c := c)
      have en := nx_N (x := x) (c := c) (k := k2) (by omega) (by omega) hk2
      have p8 : 8 ^ k2 ≤ 4096 := by
        rcases (show k2 = 0 ∨ k2 = 1 ∨ k2 = 2 ∨ k2 = 3 ∨ k2 = 4 by omega) with q | q | q | q | q <;> rw [q] <;> decide
      have lt : (8 * x + c) % 8 ^ k2 < 8 ^ k2 := Nat.mod_lt _ (Nat.pow_pos (by decide))
      have ey := s.2.2.2.2.1 ((8 * x + c) % 8 ^ k2) (by omega)
      have by' := bb.1 ((8 * x + c) % 8 ^ k2)
      refine S182_69_49_69 _ _ _ _ _ _ _ _ ⟨fun q => absurd q (by omega), fun _ => ⟨⟨by omega, by omega⟩, ?_⟩⟩
      rw [ew, wv, zu, zd, zl, eu, ed, en]
      refine ⟨fun q => ⟨fun q2 => ⟨?_, ?_, ?_⟩, fun q2 => ?_⟩, fun q => ih (c + 1) _ _ _ (by omega) (S182_z s (Eq.mp lcp_e q))⟩
      · rw [s.2.2.1]; decide
      · intro e
        first
          | exact absurd (s.2.2.1.symm.trans e) (by decide)
          | exact ⟨⟨by omega, by omega⟩, ih (c + 1) _ _ _ (by omega) (S182_nx73 s (th.mp (Eq.mp lcp_e q2)) rfl (fun _ => w64_I (by rw [ey]; unfold R64; omega)))⟩
      · intro e
        first
          | exact absurd (s.2.2.1.symm.trans e) (by decide)
          | exact ⟨⟨by omega, by omega⟩, ih (c + 1) _ _ _ (by omega) (S182_nx73 s (th.mp (Eq.mp lcp_e q2)) rfl (fun _ => w64_I (by rw [ey]; unfold R64; omega)))⟩
      · have hh : Rw w n (eC x k c) = true := by
          cases hr : Rw w n (eC x k c)
          · exact absurd (th.mpr hr) (Eq.mp lcp_n q2)
          · rfl
        exact ih (c + 1) _ _ _ (by omega) (S182_hit73 s hh (by rw [w64_I (by rw [s.2.2.2.2.2]; unfold R64; omega)]))
  have zr1 : ZR 49 h w n := zr.fr s.1 (by unfold f181; omega) (by unfold f181; omega) (fun a j a1 a2 => by unfold f181; omega)
  have L15 : ∀ (j a : Nat) (z12 : aV), a + j = k → Wp X 1 182 15 [vr 69, vr 49, vi x, vi k, vl (V x), vu, vi ((8 : Int) ^ k2 - 1), vl (lg (pkH (cl1 w n (gab w n) x a) 8)), vu, vl (lg (pkH (cl1 w n (gbl w n) x a) 8)), vu, vi ((a : Int) + 1), z12, vu] [] h (fun v h1 => v = none ∧ S182 73 72 h0 h1 wt V (fun x c => Rw w n (eC x k c)) (fun x c => (8 * x + c) % 8 ^ k2) N N' (x + 1) 0) := by
    intro j
    induction j with
    | zero =>
      intro a z12 ha
      have ha : a = k := by omega
      subst ha
      exact S182_69_49_15 _ _ _ _ _ _ _ _ ⟨fun _ => LC 8 0 h _ _ rfl s, fun q => absurd q (by omega)⟩
    | succ j ih =>
      intro a z12 ha
      have dg := dgC (x := x) (a := a) (by omega) (by omega)
      have d8 : x / 8 ^ a % 8 < 8 := Nat.mod_lt _ (by decide)
      have zc := zr1.2.2.1 (x / 8 ^ a % 8) (by omega)
      have zu : h 50 ((x / 8 ^ a % 8 : Nat) : Int) = lg (pkH (gab w n (x / 8 ^ a % 8)) 8) := zc.1
      have zd : h 51 ((x / 8 ^ a % 8 : Nat) : Int) = lg (pkH (gbl w n (x / 8 ^ a % 8)) 8) := zc.2
      have zl : h 52 ((a : Int) + 1) = lg (pkH (gsl w n (a + 1)) 8) := zr1.2.2.2 (a + 1) (by omega)
      have eu : w64 (lg (pkH (cl1 w n (gab w n) x a) 8) + (i64 (lg (pkH (gab w n (x / 8 ^ a % 8)) 8)) &&& i64 (lg (pkH (gsl w n (a + 1)) 8))).toInt) = lg (pkH (cl1 w n (gab w n) x (a + 1)) 8) := by
        rw [lg_and, pkH_and gab_lt gsl_lt, lg_add, pkH_add]; rfl
      have ed : w64 (lg (pkH (cl1 w n (gbl w n) x a) 8) + (i64 (lg (pkH (gbl w n (x / 8 ^ a % 8)) 8)) &&& i64 (lg (pkH (gsl w n (a + 1)) 8))).toInt) = lg (pkH (cl1 w n (gbl w n) x (a + 1)) 8) := by
        rw [lg_and, pkH_and gbl_lt gsl_lt, lg_add, pkH_add]; rfl
      refine S182_69_49_15 _ _ _ _ _ _ _ _ ⟨fun q => absurd q (by omega), fun _ => ⟨by unfold R32; omega, by unfold R32; omega, ?_⟩⟩
      rw [dg]
      refine ⟨fun q => absurd q (by omega), fun _ => ⟨fun q => absurd q (by omega), fun _ => ⟨fun q => absurd q (by omega), fun _ => ⟨fun _ => ?_, fun q => absurd q (by omega)⟩⟩⟩⟩
      rw [zu, zd, zl, eu, ed]
      exact ih (a + 1) _ (by omega)
  have g := L15 k 0 vu (Nat.zero_add k)
  have e0 : ∀ g : Nat → Nat → Nat, pkH (cl1 w n g x 0) 8 = pkH (gst w n) 8 := fun g => pkH_cg fun i _ => rfl
  rw [e0, e0, ← zr1.1] at g
  exact S182_69_49_0 _ _ _ _ g
/-- a step of the class -/
theorem K181_49_73 {h0 : HP} {w : Int → Int} {n : Nat} {wt V : Nat → Int} {k k2 : Nat} (z : Zok w n) (zr : ZR 49 h0 w n) (hwt : ∀ c : Nat, c < 8 → h0 71 c = wt c) (hk : k ≤ 4) (hk2 : k2 ≤ 4) (e2 : h0 69 2 = 73) (e3 : h0 69 3 = 72) (hV : ∀ x : Nat, x < 8 ^ k → h0 73 x = V x) (Bd : B182 wt V (fun x c => Rw w n (eC x k c)) (fun x c => (8 * x + c) % 8 ^ k2) (8 ^ k)) : Wp X 2 181 0 [vr 69, vr 49, vi k, vi k2, vu, vu, vu] [] h0 (fun v h1 => v = none ∧ Fr f181 h0 h1 ∧ h1 69 2 = 72 ∧ h1 69 3 = 73 ∧ (∀ y : Nat, y < 8 ^ k2 → h1 72 y = pG (zV V wt (fun x c => Rw w n (eC x k c)) (fun x c => (8 * x + c) % 8 ^ k2) y) (8 ^ k) 0) ∧ h1 69 4 = pG (zJ V wt (fun x c => Rw w n (eC x k c))) (8 ^ k) 0) := by
  have pw : ∀ q : Nat, q ≤ 4 → 8 ^ q ≤ 4096 ∧ (8 : Int) ^ q = ((8 ^ q : Nat) : Int) ∧ 2 ^ (3 * q) = 8 ^ q := by
    intro q hq
    rcases (show q = 0 ∨ q = 1 ∨ q = 2 ∨ q = 3 ∨ q = 4 by omega) with e | e | e | e | e <;> rw [e] <;> decide
  have pk := pw k hk
  have pk2 := pw k2 hk2
  have sz : ∀ q : Nat, q ≤ 4 → (i32 1 <<< (i32 (3 * (q : Int)) &&& 31)).toInt = ((8 ^ q : Nat) : Int) := by
    intro q hq
    have e := shl_N (k := 3 * q) (by omega)
    rw [(pw q hq).2.2] at e
    rw [show (3 : Int) * (q : Int) = ((3 * q : Nat) : Int) by omega]
    exact e
  -- the pairs
  have LX : ∀ (j x : Nat) (h : HP) (z3 : aV), x + j = 8 ^ k → S182 73 72 h0 h wt V (fun x c => Rw w n (eC x k c)) (fun x c => (8 * x + c) % 8 ^ k2) (8 ^ k) (8 ^ k2) x 0 → Wp X 2 181 58 [vr 69, vr 49, vi k, z3, vi ((8 ^ k : Nat) : Int), vi ((8 : Int) ^ k2), vi x] [] h (fun v h1 => v = none ∧ Fr f181 h0 h1 ∧ h1 69 2 = 72 ∧ h1 69 3 = 73 ∧ (∀ y : Nat, y < 8 ^ k2 → h1 72 y = pG (zV V wt (fun x c => Rw w n (eC x k c)) (fun x c => (8 * x + c) % 8 ^ k2) y) (8 ^ k) 0) ∧ h1 69 4 = pG (zJ V wt (fun x c => Rw w n (eC x k c))) (8 ^ k) 0) := by
    intro j
    induction j with
    | zero =>
      intro x h z3 hx s
      have hx : x = 8 ^ k := by omega
      have s2 : h 69 2 = 73 := s.2.1
      have s3 : h 69 3 = 72 := s.2.2.1
      have fin : ∀ p q : Int, p = 72 → q = 73 → (none : Option aV) = none ∧ Fr f181 h0 (upd2 (upd2 h 69 2 p) 69 3 q) ∧ (upd2 (upd2 h 69 2 p) 69 3 q) 69 2 = 72 ∧ (upd2 (upd2 h 69 2 p) 69 3 q) 69 3 = 73 ∧ (∀ y : Nat, y < 8 ^ k2 → (upd2 (upd2 h 69 2 p) 69 3 q) 72 y = pG (zV V wt (fun x c => Rw w n (eC x k c)) (fun x c => (8 * x + c) % 8 ^ k2) y) (8 ^ k) 0) ∧ (upd2 (upd2 h 69 2 p) 69 3 q) 69 4 = pG (zJ V wt (fun x c => Rw w n (eC x k c))) (8 ^ k) 0 := by
        intro p q hp hq
        refine ⟨rfl, (s.1.up (by unfold f181; decide)).up (by unfold f181; decide), ?_, ?_, fun y hy => ?_, ?_⟩
        · rw [upd2_o (by decide), upd2_s]; exact hp
        · rw [upd2_s]; exact hq
        · rw [upd2_ne (by decide), upd2_ne (by decide), ← hx]; exact s.2.2.2.2.1 y hy
        · rw [upd2_o (by decide), upd2_o (by decide), ← hx]; exact s.2.2.2.2.2
      refine S181_69_49_58 _ _ _ _ _ ⟨fun _ => ⟨by rw [s2]; decide, fun a => ⟨by rw [s3]; decide, fun c => ?_, fun c => ?_⟩, fun a => ⟨by rw [s3]; decide, fun c => ?_, fun c => ?_⟩⟩, fun q => absurd q (by omega)⟩
      all_goals
        first
          | exact absurd (s2.symm.trans a) (by decide)
          | exact absurd (s3.symm.trans c) (by decide)
          | exact fin _ _ rfl rfl
    | succ j ih =>
      intro x h z3 hx s
      have s2 : h 69 2 = 73 := s.2.1
      have eV := s.2.2.2.1 x (by omega)
      have go : (0 ≤ (x : Int) ∧ (x : Int) < 4096) ∧ (((lcp (h 73 x) 0) = 0 → Wp X 2 181 96 [vr 69, vr 49, vi k, z3, vi ((8 ^ k : Nat) : Int), vi ((8 : Int) ^ k2), vi x] [] h (fun v h1 => v = none ∧ Fr f181 h0 h1 ∧ h1 69 2 = 72 ∧ h1 69 3 = 73 ∧ (∀ y : Nat, y < 8 ^ k2 → h1 72 y = pG (zV V wt (fun x c => Rw w n (eC x k c)) (fun x c => (8 * x + c) % 8 ^ k2) y) (8 ^ k) 0) ∧ h1 69 4 = pG (zJ V wt (fun x c => Rw w n (eC x k c))) (8 ^ k) 0)) ∧ ((lcp (h 73 x) 0) ≠ 0 → (R32 ((8 : Int) ^ k2 - 1)) ∧ Wp X 1 182 0 [vr 69, vr 49, vi x, vi k, vl (h 73 x), vu, vi ((8 : Int) ^ k2 - 1), vu, vu, vu, vu, vu, vu, vu] [] h (fun v h' => Wp X 2 181 96 [vr 69, vr 49, vi k, z3, vi ((8 ^ k : Nat) : Int), vi ((8 : Int) ^ k2), vi x] (psh v []) h' (fun v h1 => v = none ∧ Fr f181 h0 h1 ∧ h1 69 2 = 72 ∧ h1 69 3 = 73 ∧ (∀ y : Nat, y < 8 ^ k2 → h1 72 y = pG (zV V wt (fun x c => Rw w n (eC x k c)) (fun x c => (8 * x + c) % 8 ^ k2) y) (8 ^ k) 0) ∧ h1 69 4 = pG (zJ V wt (fun x c => Rw w n (eC x k c))) (8 ^ k) 0)))) := by
        refine ⟨⟨by omega, by omega⟩, fun q => ?_, fun q => ⟨by rw [pk2.2.1]; have := Int.natCast_nonneg (8 ^ k2); have := Int.ofNat_le.mpr pk2.1; unfold R32; omega, ?_⟩⟩
        · exact S181_69_49_96 _ _ _ _ _ ⟨by unfold R32; omega, ih (x + 1) h _ (by omega) (S182_skip s (by have := Eq.mp lcp_e q; omega))⟩
        · rw [eV]
          refine (K182_49_73 z zr hwt hk hk2 pk.1 rfl (by omega) Bd s).mono fun v h1 _ f => ?_
          obtain ⟨rfl, s1⟩ := f
          exact S181_69_49_96 _ _ _ _ _ ⟨by unfold R32; omega, ih (x + 1) h1 _ (by omega) s1⟩
      refine S181_69_49_58 _ _ _ _ _ ⟨fun q => absurd q (by omega), fun _ => ⟨by rw [s2]; decide, fun a => ?_, fun a => ?_⟩⟩
      all_goals
        first
          | exact absurd (s2.symm.trans a) (by decide)
          | exact go
  -- then is made empty
  have LZ : ∀ (j y : Nat) (h : HP) (z3 : aV), y + j = 8 ^ k2 → Fr f181 h0 h → h 69 2 = 73 → h 69 3 = 72 → (∀ x : Nat, x < 8 ^ k → h 73 x = V x) → (∀ i : Nat, i < y → h 72 i = 0) → Wp X 2 181 29 [vr 69, vr 49, vi k, z3, vi ((8 ^ k : Nat) : Int), vi ((8 : Int) ^ k2), vi y] [] h (fun v h1 => v = none ∧ Fr f181 h0 h1 ∧ h1 69 2 = 72 ∧ h1 69 3 = 73 ∧ (∀ y : Nat, y < 8 ^ k2 → h1 72 y = pG (zV V wt (fun x c => Rw w n (eC x k c)) (fun x c => (8 * x + c) % 8 ^ k2) y) (8 ^ k) 0) ∧ h1 69 4 = pG (zJ V wt (fun x c => Rw w n (eC x k c))) (8 ^ k) 0) := by
    intro j
    induction j with
    | zero =>
      intro y h z3 hy F s2 s3 sA sB
      refine S181_69_49_29 _ _ _ _ _ ⟨fun _ => ?_, fun q => absurd q (by rw [pk2.2.1]; omega)⟩
      exact LX (8 ^ k) 0 _ _ (Nat.zero_add _) ⟨F.up (by unfold f181; decide), (upd2_o (by decide)).trans s2, (upd2_o (by decide)).trans s3, fun x hx => (congrFun (upd2_ne (by decide)) _).trans (sA x hx), fun i hi => (congrFun (upd2_ne (by decide)) _).trans (sB i (by omega)), upd2_s⟩
    | succ j ih =>
      intro y h z3 hy F s2 s3 sA sB
      have go : (0 ≤ (y : Int) ∧ (y : Int) < 4096) ∧ Wp X 2 181 29 [vr 69, vr 49, vi k, z3, vi ((8 ^ k : Nat) : Int), vi ((8 : Int) ^ k2), vi ((y : Int) + 1)] [] (upd2 h 72 y 0) (fun v h1 => v = none ∧ Fr f181 h0 h1 ∧ h1 69 2 = 72 ∧ h1 69 3 = 73 ∧ (∀ y : Nat, y < 8 ^ k2 → h1 72 y = pG (zV V wt (fun x c => Rw w n (eC x k c)) (fun x c => (8 * x + c) % 8 ^ k2) y) (8 ^ k) 0) ∧ h1 69 4 = pG (zJ V wt (fun x c => Rw w n (eC x k c))) (8 ^ k) 0) := by
        refine ⟨⟨by omega, by omega⟩, ih (y + 1) _ _ (by omega) (F.up (by unfold f181; omega)) ((congrFun (upd2_ne (by decide)) _).trans s2) ((congrFun (upd2_ne (by decide)) _).trans s3) (fun x hx => (congrFun (upd2_ne (by decide)) _).trans (sA x hx)) (fun i hi => ?_)⟩
        rw [upd2_at]
        by_cases q : i = y
        · rw [if_pos (by omega)]
        · rw [if_neg (by omega)]; exact sB i (by omega)
      refine S181_69_49_29 _ _ _ _ _ ⟨fun q => absurd q (by rw [pk2.2.1]; omega), fun _ => ⟨by rw [s3]; decide, fun a => ?_, fun a => ?_⟩⟩
      all_goals
        first
          | exact absurd (s3.symm.trans a) (by decide)
          | exact go
  have g := LZ (8 ^ k2) 0 h0 (vi k2) (Nat.zero_add _) Fr.rf e2 e3 hV (fun i hi => absurd hi (Nat.not_lt_zero i))
  have go : ∀ s1 s2 : Int, s1 = ((8 ^ k : Nat) : Int) → s2 = (8 : Int) ^ k2 → Wp X 2 181 29 [vr 69, vr 49, vi k, vi k2, vi s1, vi s2, vi 0] [] h0 (fun v h1 => v = none ∧ Fr f181 h0 h1 ∧ h1 69 2 = 72 ∧ h1 69 3 = 73 ∧ (∀ y : Nat, y < 8 ^ k2 → h1 72 y = pG (zV V wt (fun x c => Rw w n (eC x k c)) (fun x c => (8 * x + c) % 8 ^ k2) y) (8 ^ k) 0) ∧ h1 69 4 = pG (zJ V wt (fun x c => Rw w n (eC x k c))) (8 ^ k) 0) := by
    intro s1 s2 h1 h2
    rw [h1, h2]
    exact g
  refine S181_69_49_0 _ _ ?_
  rw [sz k hk, sz k2 hk2]
  exact ⟨by unfold R32; omega, fun q => ⟨by unfold R32; omega, fun q2 => go _ _ rfl (by omega), fun q2 => go _ _ rfl (by omega)⟩, fun q => ⟨by unfold R32; omega, fun q2 => go _ _ (by omega) (by omega), fun q2 => go _ _ (by omega) (by omega)⟩⟩
/-- a history goes on by every class -/
theorem K182_57_73 {h0 h : HP} {w : Int → Int} {n : Nat} {wt V : Nat → Int} {N N' k k2 x : Nat} (z : Zok w n) (zr : ZR 57 h0 w n) (hwt : ∀ c : Nat, c < 8 → h0 71 c = wt c) (hk : k ≤ 4) (hk2 : k2 ≤ 4) (hN : N ≤ 4096) (hN' : N' = 8 ^ k2) (hx : x < N) (Bd : B182 wt V (fun x c => Rw w n (eC x k c)) (fun x c => (8 * x + c) % 8 ^ k2) N) (s : S182 73 72 h0 h wt V (fun x c => Rw w n (eC x k c)) (fun x c => (8 * x + c) % 8 ^ k2) N N' x 0) : Wp X 1 182 0 [vr 69, vr 57, vi x, vi k, vl (V x), vu, vi ((8 : Int) ^ k2 - 1), vu, vu, vu, vu, vu, vu, vu] [] h (fun v h1 => v = none ∧ S182 73 72 h0 h1 wt V (fun x c => Rw w n (eC x k c)) (fun x c => (8 * x + c) % 8 ^ k2) N N' (x + 1) 0) := by
  have LC : ∀ (j c : Nat) (h : HP) (z3 z12 : aV), c + j = 8 → S182 73 72 h0 h wt V (fun x c => Rw w n (eC x k c)) (fun x c => (8 * x + c) % 8 ^ k2) N N' x c → Wp X 1 182 69 [vr 69, vr 57, vi x, z3, vl (V x), vu, vi ((8 : Int) ^ k2 - 1), vl (lg (pkH (cl1 w n (gab w n) x k) 8)), vu, vl (lg (pkH (cl1 w n (gbl w n) x k) 8)), vu, vi c, z12, vu] [] h (fun v h1 => v = none ∧ S182 73 72 h0 h1 wt V (fun x c => Rw w n (eC x k c)) (fun x c => (8 * x + c) % 8 ^ k2) N N' (x + 1) 0) := by
    intro j
    induction j with
    | zero =>
      intro c h z3 z12 hc s
      have hc : c = 8 := by omega
      subst hc
      exact S182_69_57_69 _ _ _ _ _ _ _ _ ⟨fun _ => ⟨rfl, S182_row s⟩, fun q => absurd q (by omega)⟩
    | succ j ih =>
      intro c h z3 z12 hc s
      have zr1 : ZR 57 h w n := zr.fr s.1 (by unfold f181; omega) (by unfold f181; omega) (fun a j a1 a2 => by unfold f181; omega)
      have ew : h 71 c = wt c := (s.1 71 c (by unfold f181; omega)).trans (hwt c (by omega))
      have bV := Bd.1 x
      have bw := Bd.2.1 c (by omega)
      have bm := mulB' bV.1 bV.2 bw.1 bw.2
      have bb := Bd.2.2 x c hx (by omega)
      have wv : w64 (V x * wt c) = V x * wt c := w64_I (by unfold R64; omega)
      have zc := zr1.2.2.1 c (by omega)
      have zu : h 58 (c : Int) = lg (pkH (gab w n c) 8) := zc.1
      have zd : h 59 (c : Int) = lg (pkH (gbl w n c) 8) := zc.2
      have zl : h 60 0 = lg (pkH (gsl w n 0) 8) := zr1.2.2.2 0 (by omega)
      have eu : w64 (lg (pkH (cl1 w n (gab w n) x k) 8) + (i64 (lg (pkH (gab w n c) 8)) &&& i64 (lg (pkH (gsl w n 0) 8))).toInt) = lg (pkH (cl2 w n (gab w n) x k c) 8) := by
        rw [lg_and, pkH_and gab_lt gsl_lt, lg_add, pkH_add]; rfl
      have ed : w64 (lg (pkH (cl1 w n (gbl w n) x k) 8) + (i64 (lg (pkH (gbl w n c) 8)) &&& i64 (lg (pkH (gsl w n 0) 8))).toInt) = lg (pkH (cl2 w n (gbl w n) x k c) 8) := by
        rw [lg_and, pkH_and gbl_lt gsl_lt, lg_add, pkH_add]; rfl
      have th := top_hit z (x := x) (k := k) (c := c)
      have en := nx_N (x := x) (c := c) (k := k2) (by omega) (by omega) hk2
      have p8 : 8 ^ k2 ≤ 4096 := by
        rcases (show k2 = 0 ∨ k2 = 1 ∨ k2 = 2 ∨ k2 = 3 ∨ k2 = 4 by omega) with q | q | q | q | q <;> rw [q] <;> decide
      have lt : (8 * x + c) % 8 ^ k2 < 8 ^ k2 := Nat.mod_lt _ (Nat.pow_pos (by decide))
      have ey := s.2.2.2.2.1 ((8 * x + c) % 8 ^ k2) (by omega)
      have by' := bb.1 ((8 * x + c) % 8 ^ k2)
      refine S182_69_57_69 _ _ _ _ _ _ _ _ ⟨fun q => absurd q (by omega), fun _ => ⟨⟨by omega, by omega⟩, ?_⟩⟩
      rw [ew, wv, zu, zd, zl, eu, ed, en]
      refine ⟨fun q => ⟨fun q2 => ⟨?_, ?_, ?_⟩, fun q2 => ?_⟩, fun q => ih (c + 1) _ _ _ (by omega) (S182_z s (Eq.mp lcp_e q))⟩
      · rw [s.2.2.1]; decide
      · intro e
        first
          | exact absurd (s.2.2.1.symm.trans e) (by decide)
          | exact ⟨⟨by omega, by omega⟩, ih (c + 1) _ _ _ (by omega) (S182_nx73 s (th.mp (Eq.mp lcp_e q2)) rfl (fun _ => w64_I (by rw [ey]; unfold R64; omega)))⟩
      · intro e
        first
          | exact absurd (s.2.2.1.symm.trans e) (by decide)
          | exact ⟨⟨by omega, by omega⟩, ih (c + 1) _ _ _ (by omega) (S182_nx73 s (th.mp (Eq.mp lcp_e q2)) rfl (fun _ => w64_I (by rw [ey]; unfold R64; omega)))⟩
      · have hh : Rw w n (eC x k c) = true := by
          cases hr : Rw w n (eC x k c)
          · exact absurd (th.mpr hr) (Eq.mp lcp_n q2)
          · rfl
        exact ih (c + 1) _ _ _ (by omega) (S182_hit73 s hh (by rw [w64_I (by rw [s.2.2.2.2.2]; unfold R64; omega)]))
  have zr1 : ZR 57 h w n := zr.fr s.1 (by unfold f181; omega) (by unfold f181; omega) (fun a j a1 a2 => by unfold f181; omega)
  have L15 : ∀ (j a : Nat) (z12 : aV), a + j = k → Wp X 1 182 15 [vr 69, vr 57, vi x, vi k, vl (V x), vu, vi ((8 : Int) ^ k2 - 1), vl (lg (pkH (cl1 w n (gab w n) x a) 8)), vu, vl (lg (pkH (cl1 w n (gbl w n) x a) 8)), vu, vi ((a : Int) + 1), z12, vu] [] h (fun v h1 => v = none ∧ S182 73 72 h0 h1 wt V (fun x c => Rw w n (eC x k c)) (fun x c => (8 * x + c) % 8 ^ k2) N N' (x + 1) 0) := by
    intro j
    induction j with
    | zero =>
      intro a z12 ha
      have ha : a = k := by omega
      subst ha
      exact S182_69_57_15 _ _ _ _ _ _ _ _ ⟨fun _ => LC 8 0 h _ _ rfl s, fun q => absurd q (by omega)⟩
    | succ j ih =>
      intro a z12 ha
      have dg := dgC (x := x) (a := a) (by omega) (by omega)
      have d8 : x / 8 ^ a % 8 < 8 := Nat.mod_lt _ (by decide)
      have zc := zr1.2.2.1 (x / 8 ^ a % 8) (by omega)
      have zu : h 58 ((x / 8 ^ a % 8 : Nat) : Int) = lg (pkH (gab w n (x / 8 ^ a % 8)) 8) := zc.1
      have zd : h 59 ((x / 8 ^ a % 8 : Nat) : Int) = lg (pkH (gbl w n (x / 8 ^ a % 8)) 8) := zc.2
      have zl : h 60 ((a : Int) + 1) = lg (pkH (gsl w n (a + 1)) 8) := zr1.2.2.2 (a + 1) (by omega)
      have eu : w64 (lg (pkH (cl1 w n (gab w n) x a) 8) + (i64 (lg (pkH (gab w n (x / 8 ^ a % 8)) 8)) &&& i64 (lg (pkH (gsl w n (a + 1)) 8))).toInt) = lg (pkH (cl1 w n (gab w n) x (a + 1)) 8) := by
        rw [lg_and, pkH_and gab_lt gsl_lt, lg_add, pkH_add]; rfl
      have ed : w64 (lg (pkH (cl1 w n (gbl w n) x a) 8) + (i64 (lg (pkH (gbl w n (x / 8 ^ a % 8)) 8)) &&& i64 (lg (pkH (gsl w n (a + 1)) 8))).toInt) = lg (pkH (cl1 w n (gbl w n) x (a + 1)) 8) := by
        rw [lg_and, pkH_and gbl_lt gsl_lt, lg_add, pkH_add]; rfl
      refine S182_69_57_15 _ _ _ _ _ _ _ _ ⟨fun q => absurd q (by omega), fun _ => ⟨by unfold R32; omega, by unfold R32; omega, ?_⟩⟩
      rw [dg]
      refine ⟨fun q => absurd q (by omega), fun _ => ⟨fun q => absurd q (by omega), fun _ => ⟨fun q => absurd q (by omega), fun _ => ⟨fun _ => ?_, fun q => absurd q (by omega)⟩⟩⟩⟩
      rw [zu, zd, zl, eu, ed]
      exact ih (a + 1) _ (by omega)
  have g := L15 k 0 vu (Nat.zero_add k)
  have e0 : ∀ g : Nat → Nat → Nat, pkH (cl1 w n g x 0) 8 = pkH (gst w n) 8 := fun g => pkH_cg fun i _ => rfl
  rw [e0, e0, ← zr1.1] at g
  exact S182_69_57_0 _ _ _ _ g
/-- a step of the class -/
theorem K181_57_73 {h0 : HP} {w : Int → Int} {n : Nat} {wt V : Nat → Int} {k k2 : Nat} (z : Zok w n) (zr : ZR 57 h0 w n) (hwt : ∀ c : Nat, c < 8 → h0 71 c = wt c) (hk : k ≤ 4) (hk2 : k2 ≤ 4) (e2 : h0 69 2 = 73) (e3 : h0 69 3 = 72) (hV : ∀ x : Nat, x < 8 ^ k → h0 73 x = V x) (Bd : B182 wt V (fun x c => Rw w n (eC x k c)) (fun x c => (8 * x + c) % 8 ^ k2) (8 ^ k)) : Wp X 2 181 0 [vr 69, vr 57, vi k, vi k2, vu, vu, vu] [] h0 (fun v h1 => v = none ∧ Fr f181 h0 h1 ∧ h1 69 2 = 72 ∧ h1 69 3 = 73 ∧ (∀ y : Nat, y < 8 ^ k2 → h1 72 y = pG (zV V wt (fun x c => Rw w n (eC x k c)) (fun x c => (8 * x + c) % 8 ^ k2) y) (8 ^ k) 0) ∧ h1 69 4 = pG (zJ V wt (fun x c => Rw w n (eC x k c))) (8 ^ k) 0) := by
  have pw : ∀ q : Nat, q ≤ 4 → 8 ^ q ≤ 4096 ∧ (8 : Int) ^ q = ((8 ^ q : Nat) : Int) ∧ 2 ^ (3 * q) = 8 ^ q := by
    intro q hq
    rcases (show q = 0 ∨ q = 1 ∨ q = 2 ∨ q = 3 ∨ q = 4 by omega) with e | e | e | e | e <;> rw [e] <;> decide
  have pk := pw k hk
  have pk2 := pw k2 hk2
  have sz : ∀ q : Nat, q ≤ 4 → (i32 1 <<< (i32 (3 * (q : Int)) &&& 31)).toInt = ((8 ^ q : Nat) : Int) := by
    intro q hq
    have e := shl_N (k := 3 * q) (by omega)
    rw [(pw q hq).2.2] at e
    rw [show (3 : Int) * (q : Int) = ((3 * q : Nat) : Int) by omega]
    exact e
  -- the pairs
  have LX : ∀ (j x : Nat) (h : HP) (z3 : aV), x + j = 8 ^ k → S182 73 72 h0 h wt V (fun x c => Rw w n (eC x k c)) (fun x c => (8 * x + c) % 8 ^ k2) (8 ^ k) (8 ^ k2) x 0 → Wp X 2 181 58 [vr 69, vr 57, vi k, z3, vi ((8 ^ k : Nat) : Int), vi ((8 : Int) ^ k2), vi x] [] h (fun v h1 => v = none ∧ Fr f181 h0 h1 ∧ h1 69 2 = 72 ∧ h1 69 3 = 73 ∧ (∀ y : Nat, y < 8 ^ k2 → h1 72 y = pG (zV V wt (fun x c => Rw w n (eC x k c)) (fun x c => (8 * x + c) % 8 ^ k2) y) (8 ^ k) 0) ∧ h1 69 4 = pG (zJ V wt (fun x c => Rw w n (eC x k c))) (8 ^ k) 0) := by
    intro j
    induction j with
    | zero =>
      intro x h z3 hx s
      have hx : x = 8 ^ k := by omega
      have s2 : h 69 2 = 73 := s.2.1
      have s3 : h 69 3 = 72 := s.2.2.1
      have fin : ∀ p q : Int, p = 72 → q = 73 → (none : Option aV) = none ∧ Fr f181 h0 (upd2 (upd2 h 69 2 p) 69 3 q) ∧ (upd2 (upd2 h 69 2 p) 69 3 q) 69 2 = 72 ∧ (upd2 (upd2 h 69 2 p) 69 3 q) 69 3 = 73 ∧ (∀ y : Nat, y < 8 ^ k2 → (upd2 (upd2 h 69 2 p) 69 3 q) 72 y = pG (zV V wt (fun x c => Rw w n (eC x k c)) (fun x c => (8 * x + c) % 8 ^ k2) y) (8 ^ k) 0) ∧ (upd2 (upd2 h 69 2 p) 69 3 q) 69 4 = pG (zJ V wt (fun x c => Rw w n (eC x k c))) (8 ^ k) 0 := by
        intro p q hp hq
        refine ⟨rfl, (s.1.up (by unfold f181; decide)).up (by unfold f181; decide), ?_, ?_, fun y hy => ?_, ?_⟩
        · rw [upd2_o (by decide), upd2_s]; exact hp
        · rw [upd2_s]; exact hq
        · rw [upd2_ne (by decide), upd2_ne (by decide), ← hx]; exact s.2.2.2.2.1 y hy
        · rw [upd2_o (by decide), upd2_o (by decide), ← hx]; exact s.2.2.2.2.2
      refine S181_69_57_58 _ _ _ _ _ ⟨fun _ => ⟨by rw [s2]; decide, fun a => ⟨by rw [s3]; decide, fun c => ?_, fun c => ?_⟩, fun a => ⟨by rw [s3]; decide, fun c => ?_, fun c => ?_⟩⟩, fun q => absurd q (by omega)⟩
      all_goals
        first
          | exact absurd (s2.symm.trans a) (by decide)
          | exact absurd (s3.symm.trans c) (by decide)
          | exact fin _ _ rfl rfl
    | succ j ih =>
      intro x h z3 hx s
      have s2 : h 69 2 = 73 := s.2.1
      have eV := s.2.2.2.1 x (by omega)
      have go : (0 ≤ (x : Int) ∧ (x : Int) < 4096) ∧ (((lcp (h 73 x) 0) = 0 → Wp X 2 181 96 [vr 69, vr 57, vi k, z3, vi ((8 ^ k : Nat) : Int), vi ((8 : Int) ^ k2), vi x] [] h (fun v h1 => v = none ∧ Fr f181 h0 h1 ∧ h1 69 2 = 72 ∧ h1 69 3 = 73 ∧ (∀ y : Nat, y < 8 ^ k2 → h1 72 y = pG (zV V wt (fun x c => Rw w n (eC x k c)) (fun x c => (8 * x + c) % 8 ^ k2) y) (8 ^ k) 0) ∧ h1 69 4 = pG (zJ V wt (fun x c => Rw w n (eC x k c))) (8 ^ k) 0)) ∧ ((lcp (h 73 x) 0) ≠ 0 → (R32 ((8 : Int) ^ k2 - 1)) ∧ Wp X 1 182 0 [vr 69, vr 57, vi x, vi k, vl (h 73 x), vu, vi ((8 : Int) ^ k2 - 1), vu, vu, vu, vu, vu, vu, vu] [] h (fun v h' => Wp X 2 181 96 [vr 69, vr 57, vi k, z3, vi ((8 ^ k : Nat) : Int), vi ((8 : Int) ^ k2), vi x] (psh v []) h' (fun v h1 => v = none ∧ Fr f181 h0 h1 ∧ h1 69 2 = 72 ∧ h1 69 3 = 73 ∧ (∀ y : Nat, y < 8 ^ k2 → h1 72 y = pG (zV V wt (fun x c => Rw w n (eC x k c)) (fun x c => (8 * x + c) % 8 ^ k2) y) (8 ^ k) 0) ∧ h1 69 4 = pG (zJ V wt (fun x c => Rw w n (eC x k c))) (8 ^ k) 0)))) := by
        refine ⟨⟨by omega, by omega⟩, fun q => ?_, fun q => ⟨by rw [pk2.2.1]; have := Int.natCast_nonneg (8 ^ k2); have := Int.ofNat_le.mpr pk2.1; unfold R32; omega, ?_⟩⟩
        · exact S181_69_57_96 _ _ _ _ _ ⟨by unfold R32; omega, ih (x + 1) h _ (by omega) (S182_skip s (by have := Eq.mp lcp_e q; omega))⟩
        · rw [eV]
          refine (K182_57_73 z zr hwt hk hk2 pk.1 rfl (by omega) Bd s).mono fun v h1 _ f => ?_
          obtain ⟨rfl, s1⟩ := f
          exact S181_69_57_96 _ _ _ _ _ ⟨by unfold R32; omega, ih (x + 1) h1 _ (by omega) s1⟩
      refine S181_69_57_58 _ _ _ _ _ ⟨fun q => absurd q (by omega), fun _ => ⟨by rw [s2]; decide, fun a => ?_, fun a => ?_⟩⟩
      all_goals
        first
          | exact absurd (s2.symm.trans a) (by decide)
          | exact go
  -- then is made empty
  have LZ : ∀ (j y : Nat) (h : HP) (z3 : aV), y + j = 8 ^ k2 → Fr f181 h0 h → h 69 2 = 73 → h 69 3 = 72 → (∀ x : Nat, x < 8 ^ k → h 73 x = V x) → (∀ i : Nat, i < y → h 72 i = 0) → Wp X 2 181 29 [vr 69, vr 57, vi k, z3, vi ((8 ^ k : Nat) : Int), vi ((8 : Int) ^ k2), vi y] [] h (fun v h1 => v = none ∧ Fr f181 h0 h1 ∧ h1 69 2 = 72 ∧ h1 69 3 = 73 ∧ (∀ y : Nat, y < 8 ^ k2 → h1 72 y = pG (zV V wt (fun x c => Rw w n (eC x k c)) (fun x c => (8 * x + c) % 8 ^ k2) y) (8 ^ k) 0) ∧ h1 69 4 = pG (zJ V wt (fun x c => Rw w n (eC x k c))) (8 ^ k) 0) := by
    intro j
    induction j with
    | zero =>
      intro y h z3 hy F s2 s3 sA sB
      refine S181_69_57_29 _ _ _ _ _ ⟨fun _ => ?_, fun q => absurd q (by rw [pk2.2.1]; omega)⟩
      exact LX (8 ^ k) 0 _ _ (Nat.zero_add _) ⟨F.up (by unfold f181; decide), (upd2_o (by decide)).trans s2, (upd2_o (by decide)).trans s3, fun x hx => (congrFun (upd2_ne (by decide)) _).trans (sA x hx), fun i hi => (congrFun (upd2_ne (by decide)) _).trans (sB i (by omega)), upd2_s⟩
    | succ j ih =>
      intro y h z3 hy F s2 s3 sA sB
      have go : (0 ≤ (y : Int) ∧ (y : Int) < 4096) ∧ Wp X 2 181 29 [vr 69, vr 57, vi k, z3, vi ((8 ^ k : Nat) : Int), vi ((8 : Int) ^ k2), vi ((y : Int) + 1)] [] (upd2 h 72 y 0) (fun v h1 => v = none ∧ Fr f181 h0 h1 ∧ h1 69 2 = 72 ∧ h1 69 3 = 73 ∧ (∀ y : Nat, y < 8 ^ k2 → h1 72 y = pG (zV V wt (fun x c => Rw w n (eC x k c)) (fun x c => (8 * x + c) % 8 ^ k2) y) (8 ^ k) 0) ∧ h1 69 4 = pG (zJ V wt (fun x c => Rw w n (eC x k c))) (8 ^ k) 0) := by
        refine ⟨⟨by omega, by omega⟩, ih (y + 1) _ _ (by omega) (F.up (by unfold f181; omega)) ((congrFun (upd2_ne (by decide)) _).trans s2) ((congrFun (upd2_ne (by decide)) _).trans s3) (fun x hx => (congrFun (upd2_ne (by decide)) _).trans (sA x hx)) (fun i hi => ?_)⟩
        rw [upd2_at]
        by_cases q : i = y
        · rw [if_pos (by omega)]
        · rw [if_neg (by omega)]; exact sB i (by omega)
      refine S181_69_57_29 _ _ _ _ _ ⟨fun q => absurd q (by rw [pk2.2.1]; omega), fun _ => ⟨by rw [s3]; decide, fun a => ?_, fun a => ?_⟩⟩
      all_goals
        first
          | exact absurd (s3.symm.trans a) (by decide)
          | exact go
  have g := LZ (8 ^ k2) 0 h0 (vi k2) (Nat.zero_add _) Fr.rf e2 e3 hV (fun i hi => absurd hi (Nat.not_lt_zero i))
  have go : ∀ s1 s2 : Int, s1 = ((8 ^ k : Nat) : Int) → s2 = (8 : Int) ^ k2 → Wp X 2 181 29 [vr 69, vr 57, vi k, vi k2, vi s1, vi s2, vi 0] [] h0 (fun v h1 => v = none ∧ Fr f181 h0 h1 ∧ h1 69 2 = 72 ∧ h1 69 3 = 73 ∧ (∀ y : Nat, y < 8 ^ k2 → h1 72 y = pG (zV V wt (fun x c => Rw w n (eC x k c)) (fun x c => (8 * x + c) % 8 ^ k2) y) (8 ^ k) 0) ∧ h1 69 4 = pG (zJ V wt (fun x c => Rw w n (eC x k c))) (8 ^ k) 0) := by
    intro s1 s2 h1 h2
    rw [h1, h2]
    exact g
  refine S181_69_57_0 _ _ ?_
  rw [sz k hk, sz k2 hk2]
  exact ⟨by unfold R32; omega, fun q => ⟨by unfold R32; omega, fun q2 => go _ _ rfl (by omega), fun q2 => go _ _ rfl (by omega)⟩, fun q => ⟨by unfold R32; omega, fun q2 => go _ _ (by omega) (by omega), fun q2 => go _ _ (by omega) (by omega)⟩⟩
end
