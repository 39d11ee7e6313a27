-- ===== middle, step, what is left out: for both sides =====
/-- values, how many groups, base from, to, reach -/
abbrev LN : Type := (Int → Int) × Int × Int × Int × Int
def inq (q : LN) (O : Nat) (g : Int) : Bool := decide (0 ≤ g ∧ g < q.2.1 ∧ q.2.2.1 ≤ g ∧ g ≤ q.2.2.2.1 ∧ cnp q.1 g 5 ≠ 0) && !(O.testBit g.toNat)
theorem inq_iff {q : LN} {O : Nat} {g : Int} : inq q O g = true ↔ 0 ≤ g ∧ g < q.2.1 ∧ q.2.2.1 ≤ g ∧ g ≤ q.2.2.2.1 ∧ cnp q.1 g 5 ≠ 0 ∧ O.testBit g.toNat = false := by
  unfold inq
  rw [Bool.and_eq_true, decide_eq_true_iff, Bool.not_eq_true']
  constructor
  · intro e; exact ⟨e.1.1, e.1.2.1, e.1.2.2.1, e.1.2.2.2.1, e.1.2.2.2.2, e.2⟩
  · intro e; exact ⟨⟨e.1, e.2.1, e.2.2.1, e.2.2.2.1, e.2.2.2.2.1⟩, e.2.2.2.2.2⟩
def iff0 (F : Int → Bool) (f : Int → Int) (g : Int) : Int := if F g then f g else 0
def bM (F : Int → Bool) : Int := su (ind F) 20
def bS (V : Int → Int) (F : Int → Bool) : Int := su (iff0 F (mnV V)) 20
def bP (V : Int → Int) (F : Int → Bool) : Int := su (iff0 F (spV V)) 20
def absI (x : Int) : Int := if x < 0 then -x else x
def zl (y st : Int) : Int := if st < y then (if 2 * st < y then (if 3 * st < y then 3 else 2) else 1) else 0
def zn (M S p rc x : Int) : Int := zl (absI (x * M - S) * 5) (p * rc)
def qM (q : LN) (O : Nat) : Int := bM (inq q O)
def qS (q : LN) (O : Nat) : Int := bS q.1 (inq q O)
def qP (q : LN) (O : Nat) : Int := bP q.1 (inq q O)
/-- beyond the third line -/
def fq (q : LN) (O : Nat) (g : Int) : Bool := inq q O g && decide (zn (qM q O) (qS q O) (qP q O) q.2.2.2.2 (mnV q.1 g) = 3)
def cq (q : LN) (O : Nat) : Int := su (ind (fq q O)) 20
def moreq (q : LN) (O : Nat) : Bool := decide (0 < cq q O ∧ 2 ≤ qM q O - cq q O)
def nxq (q : LN) (O : Nat) : Nat := O ||| bys (fq q O) 20
def dr (q : LN) : Nat → Nat → Nat
  | 0, O => O
  | n + 1, O => if moreq q O then dr q n (nxq q O) else O
/-- left out -/
def ob (q : LN) : Nat := dr q 20 0
theorem zl_r {y st : Int} : 0 ≤ zl y st ∧ zl y st ≤ 3 := by
  unfold zl
  repeat' split
  all_goals omega
theorem zn_r {M S p rc x : Int} : 0 ≤ zn M S p rc x ∧ zn M S p rc x ≤ 3 := zl_r
theorem bM_r {F : Int → Bool} : 0 ≤ bM F ∧ bM F ≤ 20 := by
  have a := su_nn (f := ind F) (n := 20) (fun i _ => ind_r.1)
  have b := su_le (f := ind F) (c := 1) (n := 20) (fun i _ => ind_r.2)
  unfold bM
  omega
theorem iff0_r {F : Int → Bool} {f : Int → Int} {c : Int} (H : ∀ g, 0 ≤ f g ∧ f g ≤ c) (g : Int) : 0 ≤ iff0 F f g ∧ iff0 F f g ≤ c := by
  have := H g
  unfold iff0
  split <;> omega
theorem su_r {f : Int → Int} {c : Int} {n : Nat} (hn : n ≤ 20) (H : ∀ g : Int, 0 ≤ f g ∧ f g ≤ c) : 0 ≤ su f n ∧ su f n ≤ c * 20 := by
  have a := su_nn (f := f) (n := n) (fun i _ => (H i).1)
  have b := su_le (f := f) (c := c) (n := n) (fun i _ => (H i).2)
  have h0 := H 0
  have d : c * (n : Int) ≤ c * 20 := Int.mul_le_mul_of_nonneg_left (by omega) (by omega)
  omega
theorem bS_r {V : Int → Int} (hV : Vok V) {F : Int → Bool} : 0 ≤ bS V F ∧ bS V F ≤ 1198800 := by
  have := su_r (n := 20) (c := 59940) (by decide) (iff0_r (F := F) (mnV_r hV))
  unfold bS
  omega
theorem bP_r {V : Int → Int} (hV : Vok V) {F : Int → Bool} : 0 ≤ bP V F ∧ bP V F ≤ 19980 := by
  have := su_r (n := 20) (c := 999) (by decide) (iff0_r (F := F) (spV_r hV))
  unfold bP
  omega
theorem fq_in {q : LN} {O : Nat} {g : Int} (h : fq q O g = true) : inq q O g = true := by
  unfold fq at h
  rw [Bool.and_eq_true] at h
  exact h.1
theorem nxq_lt {q : LN} {O : Nat} (h : O < 1048576) : nxq q O < 1048576 := Nat.or_lt_two_pow (n := 20) h (bys_lt 20)
theorem qM_nx {q : LN} {O : Nat} : qM q (nxq q O) = qM q O - cq q O := by
  unfold qM cq bM
  rw [← su_sub]
  refine su_cg fun i hi => ?_
  have t := bys_tb (F := fq q O) (k := i) 20
  rw [show decide (i < 20) = true by simp; omega, Bool.true_and] at t
  have e : (nxq q O).testBit i = (O.testBit i || fq q O i) := by unfold nxq; rw [Nat.testBit_or, t]
  unfold ind
  cases hF : fq q O i
  · have : inq q (nxq q O) i = inq q O i := by
      unfold inq
      rw [show Int.toNat (i : Int) = i from rfl, e, hF, Bool.or_false]
    rw [this]
    simp
  · have w := fq_in hF
    have : inq q (nxq q O) i = false := by
      cases h : inq q (nxq q O) i
      · rfl
      · have := (inq_iff.mp h).2.2.2.2.2
        rw [show Int.toNat (i : Int) = i from rfl, e, hF, Bool.or_true] at this
        cases this
    rw [this, w]
    simp
theorem moreq_iff {q : LN} {O : Nat} : moreq q O = true ↔ 0 < cq q O ∧ 2 ≤ qM q O - cq q O := decide_eq_true_iff
theorem dr_more {q : LN} {O n : Nat} (h : moreq q O = true) : dr q (n + 1) O = dr q n (nxq q O) := if_pos h
theorem dr_end {q : LN} {O : Nat} (h : moreq q O = false) : ∀ n, dr q n O = O
  | 0 => rfl
  | n + 1 => if_neg (by rw [h]; decide)
theorem cq_nn {q : LN} {O : Nat} : 0 ≤ cq q O := su_nn (fun i _ => ind_r.1)
theorem bys_0 {F : Int → Bool} : ∀ n : Nat, bys F n = 0 ↔ su (ind F) n = 0
  | 0 => ⟨fun _ => rfl, fun _ => rfl⟩
  | n + 1 => by
    have ih := bys_0 (F := F) n
    have a := su_nn (f := ind F) (n := n) (fun i _ => ind_r.1)
    show bys F (n + 1) = 0 ↔ su (ind F) n + ind F n = 0
    cases hF : F n
    · rw [show bys F (n + 1) = bys F n from if_neg (by rw [hF]; decide), show ind F n = 0 from if_neg (by rw [hF]; decide), ih, Int.add_zero]
    · rw [show bys F (n + 1) = bys F n ||| 2 ^ n from if_pos hF, show ind F n = 1 from if_pos hF]
      constructor
      · intro e
        have := congrArg (fun t => t.testBit n) e
        simp only [Nat.testBit_or, Nat.testBit_two_pow_self, Bool.or_true, Nat.zero_testBit] at this
        cases this
      · intro e
        exact absurd e (by omega)
theorem mulB {a b A B : Int} (ha : 0 ≤ a) (ha2 : a ≤ A) (hb : 0 ≤ b) (hb2 : b ≤ B) : 0 ≤ a * b ∧ a * b ≤ A * B :=
  ⟨Int.mul_nonneg ha hb, Int.le_trans (Int.mul_le_mul_of_nonneg_right ha2 hb) (Int.mul_le_mul_of_nonneg_left hb2 (by omega))⟩
-- ===== the class's lines =====
/-- what the class holds of means and spans -/
def CVm (V : Int → Int) (G : Int) (h : HP) : Prop := h 8 8 = G ∧ ∀ g : Int, 0 ≤ g → g < G → h 34 g = (if cnp V g 5 = 0 then -1 else mnV V g) ∧ h 35 g = spV V g
theorem CVm.fr {V : Int → Int} {G : Int} {h h' : HP} {C : Nat → Int → Prop} (c : CVm V G h) (F : Fr C h h') (n8 : ¬ C 8 8) (n34 : ∀ j, ¬ C 34 j) (n35 : ∀ j, ¬ C 35 j) : CVm V G h' :=
  ⟨(F 8 8 n8).trans c.1, fun g a b => ⟨(F 34 g (n34 g)).trans (c.2 g a b).1, (F 35 g (n35 g)).trans (c.2 g a b).2⟩⟩
/-- lines and what is left out are well -/
def Lok (q : LN) : Prop := Vok q.1 ∧ 0 ≤ q.2.1 ∧ q.2.1 ≤ 20 ∧ 0 ≤ q.2.2.1 ∧ q.2.2.1 ≤ 19 ∧ 0 ≤ q.2.2.2.1 ∧ q.2.2.2.1 ≤ 19 ∧ 0 ≤ q.2.2.2.2 ∧ q.2.2.2.2 ≤ 999
def f36 (a : Nat) (_ : Int) : Prop := a = 36
section
variable {X : Nat × (Int → Int)} {Q : bQ} {q : LN} {h0 : HP}
theorem L166 {O : Nat} (hO : O < 1048576) (hL : Lok q) (cont : ∀ h, Fr f36 h0 h → h 36 3 = h0 36 3 → h 36 4 = h0 36 4 → h 36 0 = qM q O → h 36 1 = qS q O → h 36 2 = qP q O → Q none h) (c0 : CVm q.1 q.2.1 h0) (e04 : h0 36 4 = O) : ∀ (k n : Nat) (h : HP) (z : aV), n + k = 20 → q.2.2.1 ≤ n → Fr f36 h0 h → h 36 3 = h0 36 3 → h 36 4 = h0 36 4 → h 36 0 = su (ind (inq q O)) n → h 36 1 = su (iff0 (inq q O) (mnV q.1)) n → h 36 2 = su (iff0 (inq q O) (spV q.1)) n → Wp X 3 166 18 [vr 36, vr 8, z, vi q.2.2.2.1, vi n] [] h Q := by
  intro k
  induction k with
  | zero =>
    intro n h z hn hf F e3 e4 e0 e1 e2
    have hn : n = 20 := by omega
    subst hn
    exact S166_36_8_18 z _ _ ⟨fun _ => cont h F e3 e4 e0 e1 e2, fun _ => ⟨fun _ => cont h F e3 e4 e0 e1 e2, fun w => absurd w (by decide)⟩⟩
  | succ k ih =>
    intro n h z hn hf F e3 e4 e0 e1 e2
    have c := c0.fr F (by unfold f36; omega) (fun j => by unfold f36; omega) (fun j => by unfold f36; omega)
    have r1 := su_r (n := n) (c := 1) (by omega) (fun g => ind_r (F := inq q O) (g := g))
    have r2 := su_r (n := n) (c := 59940) (by omega) (iff0_r (F := inq q O) (mnV_r hL.1))
    have r3 := su_r (n := n) (c := 999) (by omega) (iff0_r (F := inq q O) (spV_r hL.1))
    have m1 := mnV_r hL.1 n
    have m2 := spV_r hL.1 n
    have skip : inq q O n = false → Wp X 3 166 18 [vr 36, vr 8, z, vi q.2.2.2.1, vi ((n : Int) + 1)] [] h Q := by
      intro w
      refine ih (n + 1) h z (by omega) (by omega) F e3 e4 ?_ ?_ ?_
      · rw [e0]; show _ = _ + ind (inq q O) n; unfold ind; rw [w, if_neg (by decide), Int.add_zero]
      · rw [e1]; show _ = _ + iff0 (inq q O) (mnV q.1) n; unfold iff0; rw [w, if_neg (by decide), Int.add_zero]
      · rw [e2]; show _ = _ + iff0 (inq q O) (spV q.1) n; unfold iff0; rw [w, if_neg (by decide), Int.add_zero]
    refine S166_36_8_18 z _ _ ⟨fun d => ?_, fun d => ⟨fun w => absurd w (by omega), fun _ => ⟨fun w => absurd w (by omega), fun _ => ⟨fun w => skip ?_, fun w => ⟨fun w2 => ?_, fun w2 => skip ?_⟩⟩⟩⟩⟩
    · have z0 : ∀ i : Nat, n ≤ i → i < 20 → inq q O i = false := by
        intro i a b
        cases e : inq q O i
        · rfl
        · have := (inq_iff.mp e).2.2.2.1; omega
      refine cont h F e3 e4 ?_ ?_ ?_
      · rw [e0]; exact (su_ext (by omega) (fun i a b => by unfold ind; rw [z0 i a b]; rfl)).symm
      · rw [e1]; exact (su_ext (by omega) (fun i a b => by unfold iff0; rw [z0 i a b]; rfl)).symm
      · rw [e2]; exact (su_ext (by omega) (fun i a b => by unfold iff0; rw [z0 i a b]; rfl)).symm
    · cases e : inq q O n
      · rfl
      · have := (inq_iff.mp e).2.1; rw [c.1] at w; omega
    · have cc := c.2 n (by omega) (by rw [c.1] at w; exact w)
      rw [e4, e04, bit_N (by omega) (by omega)]
      by_cases hc : cnp q.1 n 5 = 0
      · rw [cc.1, if_pos hc] at w2; exact absurd rfl w2
      · rw [cc.1, cc.2, if_neg hc]
        cases ht : O.testBit n
        · have hi : inq q O n = true := inq_iff.mpr ⟨by omega, by rw [c.1] at w; exact w, hf, d, hc, ht⟩
          refine ⟨fun w3 => absurd rfl w3, fun _ => ⟨by unfold R32; omega, by unfold R32; omega, by unfold R32; omega, ih (n + 1) _ z (by omega) (by omega) (((F.up rfl).up rfl).up rfl) ?_ ?_ ?_ ?_ ?_⟩⟩
          · rw [upd2_o (by decide), upd2_o (by decide), upd2_o (by decide)]; exact e3
          · rw [upd2_o (by decide), upd2_o (by decide), upd2_o (by decide)]; exact e4
          · rw [upd2_o (by decide), upd2_o (by decide), upd2_s, e0]; show _ = _ + ind (inq q O) n; unfold ind; rw [hi, if_pos rfl]
          · rw [upd2_o (by decide), upd2_s, e1]; show _ = _ + iff0 (inq q O) (mnV q.1) n; unfold iff0; rw [hi, if_pos rfl]
          · rw [upd2_s, e2]; show _ = _ + iff0 (inq q O) (spV q.1) n; unfold iff0; rw [hi, if_pos rfl]
        · refine ⟨fun _ => skip ?_, fun w3 => absurd w3 (by decide)⟩
          cases e : inq q O n
          · rfl
          · have := (inq_iff.mp e).2.2.2.2.2
            rw [show Int.toNat (n : Int) = n from rfl, ht] at this
            cases this
    · have cc := c.2 n (by omega) (by rw [c.1] at w; exact w)
      cases e : inq q O n
      · rfl
      · have := (inq_iff.mp e).2.2.2.2.1
        rw [cc.1, if_neg this] at w2
        omega
theorem K166 {O : Nat} (hO : O < 1048576) (hL : Lok q) (c0 : CVm q.1 q.2.1 h0) (e04 : h0 36 4 = O) : Wp X 3 166 0 [vr 36, vr 8, vi q.2.2.1, vi q.2.2.2.1, vu] [] h0 (fun r h => r = none ∧ Fr f36 h0 h ∧ h 36 3 = h0 36 3 ∧ h 36 4 = O ∧ h 36 0 = qM q O ∧ h 36 1 = qS q O ∧ h 36 2 = qP q O) := by
  obtain ⟨hv, a1, a2, a3, a4, a5, a6, a7, a8⟩ := hL
  refine S166_36_8_0 _ _ ?_
  have en : q.2.2.1 = (q.2.2.1.toNat : Int) := by omega
  have z : ∀ i : Nat, 0 ≤ i → i < q.2.2.1.toNat → inq q O i = false := by
    intro i _ b
    cases e : inq q O i
    · rfl
    · have := (inq_iff.mp e).2.2.1; omega
  have L := L166 (X := X) (Q := fun r h => r = none ∧ Fr f36 h0 h ∧ h 36 3 = h0 36 3 ∧ h 36 4 = O ∧ h 36 0 = qM q O ∧ h 36 1 = qS q O ∧ h 36 2 = qP q O) (q := q) hO ⟨hv, a1, a2, a3, a4, a5, a6, a7, a8⟩ (fun h F e3 e4 e0 e1 e2 => ⟨rfl, F, e3, e4.trans e04, e0, e1, e2⟩) c0 e04 (20 - q.2.2.1.toNat) q.2.2.1.toNat (upd2 (upd2 (upd2 h0 36 0 0) 36 1 0) 36 2 0) (vi q.2.2.1) (by omega) (by omega) (((Fr.rf.up rfl).up rfl).up rfl) (by rw [upd2_o (by decide), upd2_o (by decide), upd2_o (by decide)]) (by rw [upd2_o (by decide), upd2_o (by decide), upd2_o (by decide)]) ?_ ?_ ?_
  · rw [← en] at L
    exact L
  · rw [upd2_o (by decide), upd2_o (by decide), upd2_s]
    exact (su_ext (n := 0) (by omega) (fun i a b => by unfold ind; rw [z i a b]; rfl)).symm
  · rw [upd2_o (by decide), upd2_s]
    exact (su_ext (n := 0) (by omega) (fun i a b => by unfold iff0; rw [z i a b]; rfl)).symm
  · rw [upd2_s]
    exact (su_ext (n := 0) (by omega) (fun i a b => by unfold iff0; rw [z i a b]; rfl)).symm
theorem L171 {h : HP} {y p rc : Int} {z : aV} (e2 : h 36 2 = p) (e3 : h 36 3 = rc) (hs : 0 ≤ p * rc ∧ p * rc ≤ 19960020) : Wp X 1 171 13 [vr 36, z, vi y, vi 0] [] h (fun r h' => r = some (vi (zl y (p * rc))) ∧ h' = h) := by
  refine S171_36_13 _ _ _ ⟨fun w => absurd w (by decide), fun _ => ⟨by unfold R32; omega, ?_⟩⟩
  rw [e2, e3]
  generalize hst : p * rc = st at *
  refine ⟨by unfold R32; omega, by unfold R32; omega, fun w => ⟨by unfold zl; rw [if_neg (by omega)], rfl⟩, fun w1 => ?_⟩
  refine S171_36_13 _ _ _ ⟨fun w => absurd w (by decide), fun _ => ⟨by unfold R32; omega, ?_⟩⟩
  rw [e2, e3, hst]
  refine ⟨by unfold R32; omega, by unfold R32; omega, fun w => ⟨by unfold zl; rw [if_pos (by omega), if_neg (by omega)]; rfl, rfl⟩, fun w2 => ?_⟩
  refine S171_36_13 _ _ _ ⟨fun w => absurd w (by decide), fun _ => ⟨by unfold R32; omega, ?_⟩⟩
  rw [e2, e3, hst]
  refine ⟨by unfold R32; omega, by unfold R32; omega, fun w => ⟨by unfold zl; rw [if_pos (by omega), if_pos (by omega), if_neg (by omega)]; rfl, rfl⟩, fun w3 => ?_⟩
  exact S171_36_13 _ _ _ ⟨fun _ => ⟨by unfold zl; rw [if_pos (by omega), if_pos (by omega), if_pos (by omega)]; rfl, rfl⟩, fun w => absurd w (by decide)⟩
theorem K171 {h : HP} {M S p rc x : Int} (e0 : h 36 0 = M) (e1 : h 36 1 = S) (e2 : h 36 2 = p) (e3 : h 36 3 = rc) (hM : 0 ≤ M ∧ M ≤ 20) (hS : 0 ≤ S ∧ S ≤ 1198800) (hp : 0 ≤ p ∧ p ≤ 19980) (hr : 0 ≤ rc ∧ rc ≤ 999) (hx : 0 ≤ x ∧ x ≤ 59940) : Wp X 1 171 0 [vr 36, vi x, vu, vu] [] h (fun r h' => r = some (vi (zn M S p rc x)) ∧ h' = h) := by
  have m1 := mulB hx.1 hx.2 hM.1 hM.2
  have m2 := mulB hp.1 hp.2 hr.1 hr.2
  refine S171_36_0 x ?_
  rw [e0, e1]
  refine ⟨by unfold R32; omega, by unfold R32; omega, fun w => ⟨by unfold R32; omega, ?_⟩, fun w => ⟨by unfold R32; omega, by unfold R32; omega, ?_⟩⟩
  · have L := L171 (X := X) (y := (x * M - S) * 5) (z := vi x) e2 e3 (by omega)
    have e : zl ((x * M - S) * 5) (p * rc) = zn M S p rc x := by unfold zn absI; rw [if_neg (by omega)]
    rw [e] at L
    exact L
  · have L := L171 (X := X) (y := -(x * M - S) * 5) (z := vi x) e2 e3 (by omega)
    have e : zl (-(x * M - S) * 5) (p * rc) = zn M S p rc x := by unfold zn absI; rw [if_pos (by omega)]
    rw [e] at L
    exact L
/-- what lines are held -/
def LL0 (q : LN) (O : Nat) (h : HP) : Prop := h 36 0 = qM q O ∧ h 36 1 = qS q O ∧ h 36 2 = qP q O ∧ h 36 3 = q.2.2.2.2 ∧ h 36 4 = O
theorem K171L {h : HP} {O : Nat} {x : Int} (hL : Lok q) (L : LL0 q O h) (hx : 0 ≤ x ∧ x ≤ 59940) : Wp X 1 171 0 [vr 36, vi x, vu, vu] [] h (fun r h' => r = some (vi (zn (qM q O) (qS q O) (qP q O) q.2.2.2.2 x)) ∧ h' = h) :=
  K171 L.1 L.2.1 L.2.2.1 L.2.2.2.1 bM_r (bS_r hL.1) (bP_r hL.1) ⟨hL.2.2.2.2.2.2.2.1, hL.2.2.2.2.2.2.2.2⟩ hx
theorem L167 {O : Nat} (hO : O < 1048576) (hL : Lok q) {h : HP} (c : CVm q.1 q.2.1 h) (L : LL0 q O h) : ∀ (k n : Nat) (z : aV), n + k = 20 → q.2.2.1 ≤ n → Wp X 3 167 6 [vr 36, vr 8, z, vi q.2.2.2.1, vi (bys (fq q O) n : Int), vi n] [] h (fun r h' => r = some (vi (bys (fq q O) 20 : Int)) ∧ h' = h) := by
  intro k
  induction k with
  | zero =>
    intro n z hn hf
    have hn : n = 20 := by omega
    subst hn
    exact S167_36_8_6 z _ _ _ ⟨fun _ => ⟨rfl, rfl⟩, fun _ => ⟨fun _ => ⟨rfl, rfl⟩, fun w => absurd w (by decide)⟩⟩
  | succ k ih =>
    intro n z hn hf
    have nf : inq q O n = false → fq q O n = false := by
      intro w; unfold fq; rw [w]; rfl
    have skip : fq q O n = false → Wp X 3 167 6 [vr 36, vr 8, z, vi q.2.2.2.1, vi (bys (fq q O) n : Int), vi ((n : Int) + 1)] [] h (fun r h' => r = some (vi (bys (fq q O) 20 : Int)) ∧ h' = h) := by
      intro w
      have := ih (n + 1) z (by omega) (by omega)
      rw [show bys (fq q O) (n + 1) = bys (fq q O) n from if_neg (by rw [w]; decide)] at this
      exact this
    refine S167_36_8_6 z _ _ _ ⟨fun d => ⟨?_, rfl⟩, fun d => ⟨fun w => absurd w (by omega), fun _ => ⟨fun w => absurd w (by omega), fun _ => ⟨fun w => skip (nf ?_), fun w => ⟨fun w2 => ?_, fun w2 => skip (nf ?_)⟩⟩⟩⟩⟩
    · have z0 : ∀ i : Nat, n ≤ i → i < 20 → fq q O i = false := by
        intro i a b
        cases e : fq q O i
        · rfl
        · have := (inq_iff.mp (fq_in e)).2.2.2.1; omega
      rw [bys_ext (n := n) (m := 20) (by omega) z0]
    · cases e : inq q O n
      · rfl
      · have := (inq_iff.mp e).2.1; rw [c.1] at w; omega
    · have cc := c.2 n (by omega) (by rw [c.1] at w; exact w)
      rw [L.2.2.2.2, bit_N (by omega) (by omega)]
      by_cases hc : cnp q.1 n 5 = 0
      · rw [cc.1, if_pos hc] at w2; exact absurd rfl w2
      · rw [cc.1, if_neg hc]
        cases ht : O.testBit n
        · have hi : inq q O n = true := inq_iff.mpr ⟨by omega, by rw [c.1] at w; exact w, hf, d, hc, ht⟩
          refine ⟨fun w3 => absurd rfl w3, fun _ => (K171L hL L (mnV_r hL.1 n)).mono fun r h1 _ e => ?_⟩
          obtain ⟨rfl, rfl⟩ := e
          refine S167_36_8_39 z _ _ _ _ ⟨fun w3 => ⟨by unfold R32; omega, skip ?_⟩, fun w3 => ⟨by unfold R32; omega, ?_⟩⟩
          · unfold fq; rw [hi, decide_eq_false w3]; rfl
          · have hF : fq q O n = true := by unfold fq; rw [hi, decide_eq_true w3]; rfl
            rw [bys_step (by omega) hF]
            exact ih (n + 1) z (by omega) (by omega)
        · refine ⟨fun _ => skip (nf ?_), fun w3 => absurd w3 (by decide)⟩
          cases e : inq q O n
          · rfl
          · have := (inq_iff.mp e).2.2.2.2.2
            rw [show Int.toNat (n : Int) = n from rfl, ht] at this
            cases this
    · have cc := c.2 n (by omega) (by rw [c.1] at w; exact w)
      cases e : inq q O n
      · rfl
      · have := (inq_iff.mp e).2.2.2.2.1
        have := mnV_r hL.1 n
        rw [cc.1, if_neg ‹_›] at w2
        omega
theorem K167 {O : Nat} (hO : O < 1048576) (hL : Lok q) {h : HP} (c : CVm q.1 q.2.1 h) (L : LL0 q O h) : Wp X 3 167 0 [vr 36, vr 8, vi q.2.2.1, vi q.2.2.2.1, vu, vu] [] h (fun r h' => r = some (vi (bys (fq q O) 20 : Int)) ∧ h' = h) := by
  have a3 := hL.2.2.2.1
  have a4 := hL.2.2.2.2.1
  have en : q.2.2.1 = (q.2.2.1.toNat : Int) := by omega
  have z : ∀ i : Nat, 0 ≤ i → i < q.2.2.1.toNat → fq q O i = false := by
    intro i _ b
    cases e : fq q O i
    · rfl
    · have := (inq_iff.mp (fq_in e)).2.2.1; omega
  have w := L167 (X := X) hO hL c L (20 - q.2.2.1.toNat) q.2.2.1.toNat (vi q.2.2.1) (by omega) (by omega)
  rw [bys_ext (n := 0) (Nat.zero_le _) z, ← en] at w
  exact S167_36_8_0 _ _ w
theorem L165 (hL : Lok q) : ∀ (k : Nat) (O : Nat) (r : Nat) (h : HP) (z4 z6 : aV), O < 1048576 → r + k = 20 → qM q O + r ≤ 20 → dr q k O = ob q → Fr f36 h0 h → CVm q.1 q.2.1 h0 → h 36 3 = q.2.2.2.2 → h 36 4 = O → Wp X 4 165 14 [vr 36, vr 8, vi q.2.2.1, vi q.2.2.2.1, z4, vi r, z6] [] h (fun r h' => r = none ∧ Fr f36 h0 h' ∧ LL0 q (ob q) h') := by
  intro k
  induction k with
  | zero =>
    intro O r h z4 z6 hO hr hM hd F c0 e3 e4
    have c := c0.fr F (by unfold f36; omega) (fun j => by unfold f36; omega) (fun j => by unfold f36; omega)
    have hM0 : qM q O = 0 := by have : 0 ≤ qM q O ∧ qM q O ≤ 20 := bM_r; omega
    have hm : moreq q O = false := by
      cases e : moreq q O
      · rfl
      · have := moreq_iff.mp e; omega
    have hob : ob q = O := hd.symm
    refine S165_36_8_14 _ _ z4 _ z6 ⟨fun w => absurd w (by omega), fun _ => (K166 hO hL c e4).mono fun v h1 _ e => ?_⟩
    obtain ⟨rfl, F1, g3, g4, g0, g1, g2⟩ := e
    have c1 := c.fr F1 (by unfold f36; omega) (fun j => by unfold f36; omega) (fun j => by unfold f36; omega)
    have L : LL0 q O h1 := ⟨g0, g1, g2, g3.trans e3, g4⟩
    refine S165_36_8_28 _ _ z4 _ z6 ((K167 hO hL c1 L).mono fun v h2 _ e => ?_)
    obtain ⟨rfl, rfl⟩ := e
    refine S165_36_8_35 _ _ z4 _ z6 _ ⟨fun _ => ⟨rfl, F.tr F1, by rw [hob]; exact L⟩, fun w => ?_⟩
    have hle : cq q O ≤ qM q O := by
      refine su_mono fun i _ => ?_
      unfold ind
      cases hF : fq q O i
      · rw [if_neg (by decide)]; split <;> omega
      · rw [if_pos rfl, if_pos (fq_in hF)]; omega
    have z0 : su (ind (fq q O)) 20 = 0 := by have : cq q O = su (ind (fq q O)) 20 := rfl; have := cq_nn (q := q) (O := O); omega
    exact absurd (by rw [(bys_0 20).mpr z0]; rfl) w
  | succ k ih =>
    intro O r h z4 z6 hO hr hM hd F c0 e3 e4
    have c := c0.fr F (by unfold f36; omega) (fun j => by unfold f36; omega) (fun j => by unfold f36; omega)
    have hMr : 0 ≤ qM q O ∧ qM q O ≤ 20 := bM_r
    have hcq := cq_nn (q := q) (O := O)
    refine S165_36_8_14 _ _ z4 _ z6 ⟨fun w => absurd w (by omega), fun _ => (K166 hO hL c e4).mono fun v h1 _ e => ?_⟩
    obtain ⟨rfl, F1, g3, g4, g0, g1, g2⟩ := e
    have c1 := c.fr F1 (by unfold f36; omega) (fun j => by unfold f36; omega) (fun j => by unfold f36; omega)
    have L : LL0 q O h1 := ⟨g0, g1, g2, g3.trans e3, g4⟩
    refine S165_36_8_28 _ _ z4 _ z6 ((K167 hO hL c1 L).mono fun v h2 _ e => ?_)
    obtain ⟨rfl, rfl⟩ := e
    have b0 := bys_0 (F := fq q O) 20
    have bl := bys_lt (F := fq q O) 20
    have hsu : su (ind (fq q O)) 20 = cq q O := rfl
    rw [hsu] at b0
    refine S165_36_8_35 _ _ z4 _ z6 _ ⟨fun w => ?_, fun w => (K248 (by omega)).mono fun v h3 _ e => ?_⟩
    · have hm : moreq q O = false := by
        cases e : moreq q O
        · rfl
        · have := moreq_iff.mp e
          have := b0.mp (by omega)
          omega
      rw [dr_end hm] at hd
      exact ⟨rfl, F.tr F1, by rw [← hd]; exact L⟩
    · obtain ⟨rfl, rfl⟩ := e
      have pc : ((pcn (bys (fq q O) 20) : Nat) : Int) = cq q O := pcn_su
      have hc0 : cq q O ≠ 0 := fun e => w (by rw [b0.mpr e]; rfl)
      rw [pc, L.1]
      have hle : cq q O ≤ qM q O := by
        refine su_mono fun i _ => ?_
        unfold ind
        cases hF : fq q O i
        · rw [if_neg (by decide)]; split <;> omega
        · rw [if_pos rfl, if_pos (fq_in hF)]; omega
      refine S165_36_8_51 _ _ z4 _ _ _ _ ⟨by unfold R32; omega, fun d => ⟨by unfold R32; omega, ?_⟩, fun d => ?_⟩
      · have hm : moreq q O = true := moreq_iff.mpr ⟨by omega, d⟩
        rw [dr_more hm] at hd
        rw [L.2.2.2.2, or_N (by omega) (by omega)]
        refine ih (nxq q O) (r + 1) _ _ _ (nxq_lt hO) (by omega) (by rw [qM_nx]; omega) hd ((F.tr F1).up rfl) c0 ?_ upd2_s
        rw [upd2_o (by decide)]; exact L.2.2.2.1
      · have hm : moreq q O = false := by
          cases e : moreq q O
          · rfl
          · have := moreq_iff.mp e; omega
        rw [dr_end hm] at hd
        exact ⟨rfl, F.tr F1, by rw [← hd]; exact L⟩
theorem K165 (hL : Lok q) (c0 : CVm q.1 q.2.1 h0) : Wp X 4 165 0 [vr 36, vr 8, vi q.2.2.1, vi q.2.2.2.1, vi q.2.2.2.2, vu, vu] [] h0 (fun r h => r = none ∧ Fr f36 h0 h ∧ LL0 q (ob q) h) := by
  have hMr : 0 ≤ qM q 0 ∧ qM q 0 ≤ 20 := bM_r
  exact S165_36_8_0 _ _ _ (L165 hL 20 0 0 _ _ _ (by decide) rfl (by omega) rfl ((Fr.rf.up rfl).up rfl) c0 (by rw [upd2_o (by decide), upd2_s]) upd2_s)
/-- how a mean stands: its class, 8 on no side -/
def stn (M S p rc x : Int) : Int := if M ≤ 0 then 8 else if x * M - S = 0 then 8 else if 0 < x * M - S then 4 + zn M S p rc x else 3 - zn M S p rc x
theorem stn_r {M S p rc x : Int} : 0 ≤ stn M S p rc x ∧ stn M S p rc x ≤ 8 := by
  have := zn_r (M := M) (S := S) (p := p) (rc := rc) (x := x)
  unfold stn
  repeat' split
  all_goals omega
def qst (q : LN) (x : Int) : Int := stn (qM q (ob q)) (qS q (ob q)) (qP q (ob q)) q.2.2.2.2 x
theorem K172 {h : HP} {x : Int} (hL : Lok q) (L : LL0 q (ob q) h) (hx : 0 ≤ x ∧ x ≤ 59940) : Wp X 2 172 0 [vr 36, vi x, vu, vu] [] h (fun r h' => r = some (vi (qst q x)) ∧ h' = h) := by
  have bm : 0 ≤ qM q (ob q) ∧ qM q (ob q) ≤ 20 := bM_r
  have bs : 0 ≤ qS q (ob q) ∧ qS q (ob q) ≤ 1198800 := bS_r hL.1
  have m1 := mulB hx.1 hx.2 bm.1 bm.2
  have z := zn_r (M := qM q (ob q)) (S := qS q (ob q)) (p := qP q (ob q)) (rc := q.2.2.2.2) (x := x)
  refine S172_36_0 x ?_
  rw [L.1, L.2.1]
  unfold qst stn
  refine ⟨fun w => ⟨by rw [if_pos w], rfl⟩, fun w => ⟨by unfold R32; omega, by unfold R32; omega, fun w2 => ⟨fun w3 => (K171L hL L hx).mono fun v h1 _ e => ?_, fun w3 => ⟨by rw [if_neg (by omega), if_pos w3], rfl⟩⟩, fun w2 => (K171L hL L hx).mono fun v h1 _ e => ?_⟩⟩
  · obtain ⟨rfl, rfl⟩ := e
    refine S172_36_29 _ _ _ _ ⟨fun e => absurd e (by decide), fun _ => ⟨by unfold R32; omega, ?_, rfl⟩⟩
    rw [if_neg (by omega), if_neg w3, if_pos (by omega)]
  · obtain ⟨rfl, rfl⟩ := e
    refine S172_36_29 _ _ _ _ ⟨fun _ => ⟨by unfold R32; omega, ?_, rfl⟩, fun e => absurd e (by decide)⟩
    rw [if_neg (by omega), if_neg (by omega), if_neg (by omega)]
end
