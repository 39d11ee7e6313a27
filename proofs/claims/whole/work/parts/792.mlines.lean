-- ===== the reference's middle, step, what is left out =====
theorem lcp_l {a b : Int} : (lcp a b < 0) = (a < b) := by
  unfold lcp
  apply propext
  repeat' split
  all_goals omega
theorem lcp_ge {a b : Int} : (0 ≤ lcp a b) = (b ≤ a) := by
  unfold lcp
  apply propext
  repeat' split
  all_goals omega
theorem lcp_g {a b : Int} : (0 < lcp a b) = (b < a) := by
  unfold lcp
  apply propext
  repeat' split
  all_goals omega
theorem lcp_le {a b : Int} : (lcp a b ≤ 0) = (a ≤ b) := by
  unfold lcp
  apply propext
  repeat' split
  all_goals omega
theorem lcp_e {a b : Int} : (lcp a b = 0) = (a = b) := by
  unfold lcp
  apply propext
  repeat' split
  all_goals omega
theorem lcp_n {a b : Int} : (lcp a b ≠ 0) = (a ≠ b) := by rw [ne_eq, lcp_e]
def mq5 (b : HP) : LN := (VL b, b 89 5, b 97 0, b 97 1, b 97 2)
/-- settings of the base are well -/
def Sok (b : HP) : Prop := 0 ≤ b 97 0 ∧ b 97 0 ≤ 19 ∧ 0 ≤ b 97 1 ∧ b 97 1 ≤ 19 ∧ 0 ≤ b 97 2 ∧ b 97 2 ≤ 999
theorem mq5_ok {b : HP} (T : Tok b) (s : Sok b) : Lok (mq5 b) := ⟨VL_ok T, T.1.1, T.1.2.1, s.1, s.2.1, s.2.2.1, s.2.2.2.1, s.2.2.2.2.1, s.2.2.2.2.2⟩
/-- the reference's lines -/
def BB (q : LN) (O : Nat) (h : HP) : Prop := h 89 19 = qM q O ∧ h 89 17 = qS q O ∧ h 89 18 = qP q O ∧ h 89 20 = O
def fB (a : Nat) (j : Int) : Prop := (98 ≤ a ∧ a ≤ 102) ∨ (a = 89 ∧ 16 ≤ j ∧ j ≤ 20)
def fS3 (a : Nat) (j : Int) : Prop := a = 89 ∧ 17 ≤ j ∧ j ≤ 19
theorem VV.fr {b h h' : HP} {C : Nat → Int → Prop} (v : VV b h) (F : Fr C h h') (n16 : ¬ C 89 16) (n : ∀ a j, 98 ≤ a → a ≤ 102 → ¬ C a j) : VV b h' := by
  refine ⟨fun k a c => ?_, fun g a c => ?_, v.2.2.1.cg (F.row fun j => n 102 j (by decide) (by decide)), (F 89 16 n16).trans v.2.2.2⟩
  · rw [F _ _ (n 98 k (by decide) (by decide))]; exact v.1 k a c
  · rw [F _ _ (n 99 g (by decide) (by decide)), F _ _ (n 100 g (by decide) (by decide)), F _ _ (n 101 g (by decide) (by decide))]; exact v.2.1 g a c
section
variable {X : Nat × (Int → Int)} {Q : bQ} {b h0 : HP}
theorem L74 {O : Nat} (hO : O < 1048576) (T : Tok b) (s : Sok b) (cont : ∀ h, P h = P b → Fr fS3 h0 h → VV b h → BB (mq5 b) O h → Q none h) : ∀ (k n : Nat) (h : HP), (n : Int) + k = b 89 5 → P h = P b → Fr fS3 h0 h → VV b h → h 89 20 = O → h 89 19 = su (ind (inq (mq5 b) O)) n → h 89 17 = su (iff0 (inq (mq5 b) O) (mnV (VL b))) n → h 89 18 = su (iff0 (inq (mq5 b) O) (spV (VL b))) n → Wp X 2 74 17 [vr 89, vi n] [] h Q := by
  intro k
  induction k with
  | zero =>
    intro n h hn hP F v e20 e19 e17 e18
    have e5 : h 89 5 = b 89 5 := congrFun (congrFun hP 89) 5
    have t := T.1
    have z : ∀ i : Nat, n ≤ i → i < 20 → inq (mq5 b) O i = false := by
      intro i a c
      cases e : inq (mq5 b) O i
      · rfl
      · have w : (i : Int) < b 89 5 := (inq_iff.mp e).2.1
        omega
    refine S74_89_17 _ ⟨fun _ => cont h hP F v ⟨?_, ?_, ?_, e20⟩, fun w => absurd w (by omega)⟩
    · rw [e19]; exact (su_ext (by omega) (fun i a c => by unfold ind; rw [z i a c]; rfl)).symm
    · rw [e17]; exact (su_ext (by omega) (fun i a c => by unfold iff0; rw [z i a c]; rfl)).symm
    · rw [e18]; exact (su_ext (by omega) (fun i a c => by unfold iff0; rw [z i a c]; rfl)).symm
  | succ k ih =>
    intro n h hn hP F v e20 e19 e17 e18
    have e5 : h 89 5 = b 89 5 := congrFun (congrFun hP 89) 5
    have e0 : h 97 0 = b 97 0 := congrFun (congrFun hP 97) 0
    have e1 : h 97 1 = b 97 1 := congrFun (congrFun hP 97) 1
    have t := T.1
    have hV := VL_ok T
    have r1 := su_r (n := n) (c := 1) (by omega) (fun g => ind_r (F := inq (mq5 b) O) (g := g))
    have r2 := su_r (n := n) (c := 59940) (by omega) (iff0_r (F := inq (mq5 b) O) (mnV_r hV))
    have r3 := su_r (n := n) (c := 999) (by omega) (iff0_r (F := inq (mq5 b) O) (spV_r hV))
    have m1 := mnV_r hV n
    have m2 := spV_r hV n
    have vg := v.2.1 n (by omega) (by omega)
    have skip : inq (mq5 b) O n = false → Wp X 2 74 17 [vr 89, vi ((n : Int) + 1)] [] h Q := by
      intro w
      refine ih (n + 1) h (by omega) hP F v e20 ?_ ?_ ?_
      · rw [e19]; show _ = _ + ind (inq (mq5 b) O) n; unfold ind; rw [w, if_neg (by decide), Int.add_zero]
      · rw [e17]; show _ = _ + iff0 (inq (mq5 b) O) (mnV (VL b)) n; unfold iff0; rw [w, if_neg (by decide), Int.add_zero]
      · rw [e18]; show _ = _ + iff0 (inq (mq5 b) O) (spV (VL b)) n; unfold iff0; rw [w, if_neg (by decide), Int.add_zero]
    have nf : (inq (mq5 b) O n = true → False) → inq (mq5 b) O n = false := fun w => by
      cases e : inq (mq5 b) O n
      · rfl
      · exact absurd e w
    refine S74_89_17 _ ?_
    rw [e20, vg.1, vg.2.1, vg.2.2, bit_N (by omega) (by omega)]
    simp only [lcp_l, lcp_ge, lcp_g, lcp_le]
    refine ⟨fun w => absurd w (by omega), fun _ => ⟨fun w => ⟨by unfold R32; omega, skip (nf fun e => ?_)⟩, fun w => ⟨fun w2 => ⟨by unfold R32; omega, skip (nf fun e => ?_)⟩, fun w2 => ⟨⟨by omega, by omega⟩, fun w3 => skip (nf fun e => ?_), fun w3 => ⟨fun w4 => skip (nf fun e => ?_), fun w4 => ⟨by unfold R64; omega, by unfold R64; omega, by unfold R32; omega, ?_⟩⟩⟩⟩⟩⟩
    · have := (inq_iff.mp e).2.2.1
      have : b 97 0 ≤ (n : Int) := this
      omega
    · have := (inq_iff.mp e).2.2.2.1
      have : (n : Int) ≤ b 97 1 := this
      omega
    · exact w3 (if_neg (inq_iff.mp e).2.2.2.2.1)
    · have := (inq_iff.mp e).2.2.2.2.2
      rw [show Int.toNat (n : Int) = n from rfl] at this
      rw [this] at w4
      exact w4 rfl
    · have hc : cnp (VL b) n 5 ≠ 0 := fun e => by rw [if_pos e] at w3; exact absurd w3 (by decide)
      have ht : O.testBit n = false := by
        cases e : O.testBit n
        · rfl
        · rw [e] at w4; exact absurd w4 (by decide)
      have hi : inq (mq5 b) O n = true := inq_iff.mpr ⟨by omega, by show (n : Int) < b 89 5; omega, by show b 97 0 ≤ (n : Int); omega, by show (n : Int) ≤ b 97 1; omega, hc, ht⟩
      have F1 : Fr fS3 h (upd2 (upd2 (upd2 h 89 17 ((h 89 17) + mnV (VL b) n)) 89 18 ((h 89 18) + spV (VL b) n)) 89 19 ((h 89 19) + 1)) := ((Fr.rf.up ⟨rfl, by decide, by decide⟩).up ⟨rfl, by decide, by decide⟩).up ⟨rfl, by decide, by decide⟩
      refine ih (n + 1) _ (by omega) ((P_up rfl).trans ((P_up rfl).trans ((P_up rfl).trans hP))) (F.tr F1) (v.fr F1 (by unfold fS3; omega) (fun a j a1 a2 => by unfold fS3; omega)) ?_ ?_ ?_ ?_
      · rw [upd2_o (by decide), upd2_o (by decide), upd2_o (by decide)]; exact e20
      · rw [upd2_s, e19]; show _ = _ + ind (inq (mq5 b) O) n; unfold ind; rw [hi, if_pos rfl]
      · rw [upd2_o (by decide), upd2_o (by decide), upd2_s, e17]; show _ = _ + iff0 (inq (mq5 b) O) (mnV (VL b)) n; unfold iff0; rw [hi, if_pos rfl]
      · rw [upd2_o (by decide), upd2_s, e18]; show _ = _ + iff0 (inq (mq5 b) O) (spV (VL b)) n; unfold iff0; rw [hi, if_pos rfl]
theorem K74 {O : Nat} (hO : O < 1048576) (T : Tok b) (s : Sok b) (hP : P h0 = P b) (v : VV b h0) (e20 : h0 89 20 = O) : Wp X 2 74 0 [vr 89, vu] [] h0 (fun r h => r = none ∧ P h = P b ∧ Fr fS3 h0 h ∧ VV b h ∧ BB (mq5 b) O h) := by
  have F1 : Fr fS3 h0 (upd2 (upd2 (upd2 h0 89 17 0) 89 18 0) 89 19 0) := ((Fr.rf.up ⟨rfl, by decide, by decide⟩).up ⟨rfl, by decide, by decide⟩).up ⟨rfl, by decide, by decide⟩
  have t := T.1
  refine S74_89_0 (L74 hO T s (fun h hP F v B => ⟨rfl, hP, F, v, B⟩) (b 89 5).toNat 0 _ (by omega) ((P_up rfl).trans ((P_up rfl).trans ((P_up rfl).trans hP))) F1 (v.fr F1 (by unfold fS3; omega) (fun a j a1 a2 => by unfold fS3; omega)) ?_ ?_ ?_ ?_)
  · rw [upd2_o (by decide), upd2_o (by decide), upd2_o (by decide)]; exact e20
  · exact upd2_s
  · rw [upd2_o (by decide), upd2_o (by decide), upd2_s]; rfl
  · rw [upd2_o (by decide), upd2_s]; rfl
theorem L77 {h : HP} {y p rc : Int} {z : aV} (e2 : h 89 18 = p) (e3 : h 97 2 = rc) (hp : 0 ≤ p ∧ p ≤ 19980) (hs : 0 ≤ p * rc ∧ p * rc ≤ 19960020) (hy : 0 ≤ y) (hq : Q (some (vi (zl y (p * rc)))) h) : Wp X 1 77 28 [vr 89, z, vl y, vu, vi 0] [] h Q := by
  refine S77_89_28 _ _ _ ?_
  rw [e2, e3]
  simp only [lcp_l, lcp_ge, lcp_g, lcp_le, lcp_e, lcp_n, Int.mul_assoc]
  generalize hst : p * rc = st at *
  have s1 : zl y st = if st < y then (if 2 * st < y then (if 3 * st < y then 3 else 2) else 1) else 0 := rfl
  rw [s1] at hq
  refine ⟨fun w => absurd w (by decide), fun _ => ⟨by unfold R32; omega, by unfold R64; omega, by unfold R64; omega, fun w => ?_, fun w1 => ?_⟩⟩
  · rw [if_neg (by omega)] at hq
    exact ⟨fun w0 => hq, fun w0 => hq⟩
  rw [if_pos (by omega)] at hq
  refine S77_89_28 _ _ _ ?_
  rw [e2, e3]
  simp only [lcp_l, lcp_ge, lcp_g, lcp_le, lcp_e, lcp_n, Int.mul_assoc]
  rw [hst]
  refine ⟨fun w => absurd w (by decide), fun _ => ⟨by unfold R32; omega, by unfold R64; omega, by unfold R64; omega, fun w => ?_, fun w2 => ?_⟩⟩
  · rw [if_neg (by omega)] at hq
    exact ⟨fun w0 => hq, fun w0 => absurd w0 (by omega)⟩
  rw [if_pos (by omega)] at hq
  refine S77_89_28 _ _ _ ?_
  rw [e2, e3]
  simp only [lcp_l, lcp_ge, lcp_g, lcp_le, lcp_e, lcp_n, Int.mul_assoc]
  rw [hst]
  refine ⟨fun w => absurd w (by decide), fun _ => ⟨by unfold R32; omega, by unfold R64; omega, by unfold R64; omega, fun w => ?_, fun w3 => ?_⟩⟩
  · rw [if_neg (by omega)] at hq
    exact ⟨fun w0 => hq, fun w0 => absurd w0 (by omega)⟩
  rw [if_pos (by omega)] at hq
  refine S77_89_28 _ _ _ ?_
  simp only [lcp_l, lcp_ge, lcp_g, lcp_le, lcp_e, lcp_n]
  exact ⟨fun _ => ⟨fun w0 => hq, fun w0 => absurd w0 (by omega)⟩, fun w => absurd w (by decide)⟩
theorem K77 {h : HP} {q : LN} {O : Nat} {g : Int} (hL : Lok q) (B : BB q O h) (e2 : h 97 2 = q.2.2.2.2) (hg : 0 ≤ g ∧ g < 20) (eg : h 99 g = mnV q.1 g) : Wp X 1 77 0 [vr 89, vi g, vu, vu, vu] [] h (fun r h' => r = some (vi (zn (qM q O) (qS q O) (qP q O) q.2.2.2.2 (mnV q.1 g))) ∧ h' = h) := by
  have bm : 0 ≤ qM q O ∧ qM q O ≤ 20 := bM_r
  have bs : 0 ≤ qS q O ∧ qS q O ≤ 1198800 := bS_r hL.1
  have bp : 0 ≤ qP q O ∧ qP q O ≤ 19980 := bP_r hL.1
  have hx := mnV_r hL.1 g
  have m1 := mulB hx.1 hx.2 bm.1 bm.2
  have m2 := mulB bp.1 bp.2 hL.2.2.2.2.2.2.2.1 hL.2.2.2.2.2.2.2.2
  refine S77_89_0 _ ?_
  rw [eg, B.1, B.2.1]
  simp only [lcp_l, lcp_ge]
  refine ⟨hg, by unfold R64; omega, by unfold R64; omega, by unfold R64; omega, fun w => ?_, fun w => ⟨by unfold R64; omega, ?_⟩⟩
  · have e : zl (5 * (mnV q.1 g * qM q O - qS q O)) (qP q O * q.2.2.2.2) = zn (qM q O) (qS q O) (qP q O) q.2.2.2.2 (mnV q.1 g) := by
      unfold zn absI
      rw [if_neg (by omega), Int.mul_comm 5]
    exact L77 B.2.2.1 e2 bp (by omega) w ⟨by rw [e], rfl⟩
  · have e : zl (-(5 * (mnV q.1 g * qM q O - qS q O))) (qP q O * q.2.2.2.2) = zn (qM q O) (qS q O) (qP q O) q.2.2.2.2 (mnV q.1 g) := by
      unfold zn absI
      rw [if_pos (by omega), show -(mnV q.1 g * qM q O - qS q O) * 5 = -(5 * (mnV q.1 g * qM q O - qS q O)) by omega]
    exact L77 B.2.2.1 e2 bp (by omega) (by omega) ⟨by rw [e], rfl⟩
/-- one round: which are beyond, and how many -/
theorem L78 {O : Nat} (hO : O < 1048576) (T : Tok b) (s : Sok b) {h : HP} (hP : P h = P b) (v : VV b h) (B : BB (mq5 b) O h) (cont : ∀ z : aV, Wp X 3 78 37 [vr 89, z, vi (bys (fq (mq5 b) O) 20 : Int), vi (cq (mq5 b) O), vi (b 89 5)] [] h Q) : ∀ (k n : Nat) (z : aV), (n : Int) + k = b 89 5 → Wp X 3 78 37 [vr 89, z, vi (bys (fq (mq5 b) O) n : Int), vi (su (ind (fq (mq5 b) O)) n), vi n] [] h Q := by
  have e5 : h 89 5 = b 89 5 := congrFun (congrFun hP 89) 5
  have e0 : h 97 0 = b 97 0 := congrFun (congrFun hP 97) 0
  have e1 : h 97 1 = b 97 1 := congrFun (congrFun hP 97) 1
  have e2 : h 97 2 = b 97 2 := congrFun (congrFun hP 97) 2
  have t := T.1
  have hL := mq5_ok T s
  intro k
  induction k with
  | zero =>
    intro n z hn
    have z0 : ∀ i : Nat, n ≤ i → i < 20 → fq (mq5 b) O i = false := by
      intro i a c
      cases e : fq (mq5 b) O i
      · rfl
      · have w : (i : Int) < b 89 5 := (inq_iff.mp (fq_in e)).2.1
        omega
    have c := cont z
    rw [bys_ext (n := n) (m := 20) (by omega) z0, show cq (mq5 b) O = su (ind (fq (mq5 b) O)) n from su_ext (by omega) (fun i a c => by unfold ind; rw [z0 i a c]; rfl), show b 89 5 = n by omega] at c
    exact c
  | succ k ih =>
    intro n z hn
    have vg := v.2.1 n (by omega) (by omega)
    have skip : ∀ z, fq (mq5 b) O n = false → Wp X 3 78 37 [vr 89, z, vi (bys (fq (mq5 b) O) n : Int), vi (su (ind (fq (mq5 b) O)) n), vi ((n : Int) + 1)] [] h Q := by
      intro z w
      have i2 := ih (n + 1) z (by omega)
      rw [show bys (fq (mq5 b) O) (n + 1) = bys (fq (mq5 b) O) n from if_neg (by rw [w]; decide), show su (ind (fq (mq5 b) O)) (n + 1) = su (ind (fq (mq5 b) O)) n by show _ + ind (fq (mq5 b) O) n = _; unfold ind; rw [w, if_neg (by decide), Int.add_zero]] at i2
      exact i2
    have nf : (inq (mq5 b) O n = true → False) → fq (mq5 b) O n = false := fun w => by
      cases e : fq (mq5 b) O n
      · rfl
      · exact absurd (fq_in e) w
    refine S78_89_37 _ _ _ _ ?_
    rw [B.2.2.2, vg.2.2, bit_N (by omega) (by omega)]
    simp only [lcp_l, lcp_ge, lcp_g, lcp_le]
    refine ⟨fun w => absurd w (by omega), fun _ => ⟨fun w => ⟨by unfold R32; omega, skip _ (nf fun e => ?_)⟩, fun w => ⟨fun w2 => ⟨by unfold R32; omega, skip _ (nf fun e => ?_)⟩, fun w2 => ⟨⟨by omega, by omega⟩, fun w3 => skip _ (nf fun e => ?_), fun w3 => ⟨fun w4 => skip _ (nf fun e => ?_), fun w4 => (K77 hL B (e2.trans rfl) ⟨by omega, by omega⟩ vg.1).mono fun r h1 _ e => ?_⟩⟩⟩⟩⟩
    · have := (inq_iff.mp e).2.2.1
      have : b 97 0 ≤ (n : Int) := this
      omega
    · have := (inq_iff.mp e).2.2.2.1
      have : (n : Int) ≤ b 97 1 := this
      omega
    · exact w3 (if_neg (inq_iff.mp e).2.2.2.2.1)
    · have := (inq_iff.mp e).2.2.2.2.2
      rw [show Int.toNat (n : Int) = n from rfl] at this
      rw [this] at w4
      exact w4 rfl
    · obtain ⟨rfl, rfl⟩ := e
      have hc : cnp (VL b) n 5 ≠ 0 := fun e => by rw [if_pos e] at w3; exact absurd w3 (by decide)
      have ht : O.testBit n = false := by
        cases e : O.testBit n
        · rfl
        · rw [e] at w4; exact absurd w4 (by decide)
      have hi : inq (mq5 b) O n = true := inq_iff.mpr ⟨by omega, by show (n : Int) < b 89 5; omega, by show b 97 0 ≤ (n : Int); omega, by show (n : Int) ≤ b 97 1; omega, hc, ht⟩
      have r1 := su_r (n := n) (c := 1) (by omega) (fun g => ind_r (F := fq (mq5 b) O) (g := g))
      refine S78_89_61 _ _ _ _ _ ⟨fun w5 => ⟨by unfold R32; omega, skip _ ?_⟩, fun w5 => ⟨by unfold R32; omega, by unfold R32; omega, ?_⟩⟩
      · unfold fq; rw [hi, decide_eq_false w5]; rfl
      · have hF : fq (mq5 b) O n = true := by unfold fq; rw [hi, decide_eq_true w5]; rfl
        rw [bys_step (by omega) hF]
        have i2 := ih (n + 1) (clr1 z) (by omega)
        rw [show su (ind (fq (mq5 b) O)) (n + 1) = su (ind (fq (mq5 b) O)) n + 1 by show _ + ind (fq (mq5 b) O) n = _; unfold ind; rw [hF, if_pos rfl]] at i2
        exact i2
theorem L78b (T : Tok b) (s : Sok b) (cont : ∀ h, P h = P b → Fr fB h0 h → VV b h → BB (mq5 b) (ob (mq5 b)) h → Q (some (vi (if 0 < qM (mq5 b) (ob (mq5 b)) then 1 else 0))) h) : ∀ (k : Nat) (O : Nat) (r : Nat) (h : HP) (x1 : Int) (z2 z3 z4 : aV), O < 1048576 → r + k = 20 → qM (mq5 b) O + r ≤ 20 → dr (mq5 b) k O = ob (mq5 b) → P h = P b → Fr fB h0 h → VV b h → BB (mq5 b) O h → (x1 = 0 → O = ob (mq5 b)) → Wp X 3 78 26 [vr 89, vi x1, z2, z3, z4] [] h Q := by
  have hL := mq5_ok T s
  have fin : ∀ (h : HP) (z2 z3 z4 : aV), P h = P b → Fr fB h0 h → VV b h → BB (mq5 b) (ob (mq5 b)) h → Wp X 3 78 26 [vr 89, vi 0, z2, z3, z4] [] h Q := by
    intro h z2 z3 z4 hP F v B
    refine S78_89_26 _ _ _ _ ⟨fun _ => ?_, fun w => absurd rfl w⟩
    have c := cont h hP F v B
    rw [B.1]
    refine ⟨fun w => ?_, fun w => ?_⟩
    · rw [if_neg (by omega)] at c; exact c
    · rw [if_pos w] at c; exact c
  intro k
  induction k with
  | zero =>
    intro O r h x1 z2 z3 z4 hO hr hM hd hP F v B hx
    have hd : O = ob (mq5 b) := hd
    by_cases q : x1 = 0
    · subst q
      exact fin h _ _ _ hP F v (by rw [← hd]; exact B)
    · have hM0 : 0 ≤ qM (mq5 b) O ∧ qM (mq5 b) O ≤ 20 := bM_r
      have t := T.1
      have hcq := cq_nn (q := mq5 b) (O := O)
      have hle : cq (mq5 b) O ≤ qM (mq5 b) O := by
        refine su_mono fun i _ => ?_
        unfold ind
        cases hF : fq (mq5 b) O i
        · rw [if_neg (by decide)]; split <;> omega
        · rw [if_pos rfl, if_pos (fq_in hF)]; omega
      have e5 : h 89 5 = b 89 5 := congrFun (congrFun hP 89) 5
      refine S78_89_26 _ _ _ _ ⟨fun w => absurd w q, fun _ => L78 hO T s hP v B (fun z => ?_) (b 89 5).toNat 0 (vi x1) (by omega)⟩
      refine S78_89_37 _ _ _ _ ⟨fun _ => ⟨fun w => ?_, fun w => absurd w (by omega)⟩, fun w => absurd w (by omega)⟩
      have F1 : Fr fB h (upd2 h 89 20 ((i32 (h 89 20) ||| i32 0).toInt)) := Fr.rf.up (.inr ⟨rfl, by decide, by decide⟩)
      refine (K74 hO T s ((P_up rfl).trans hP) (v.fr (C := fun a j => a = 89 ∧ j = 20) (Fr.rf.up ⟨rfl, rfl⟩) (by omega) (fun a j a1 a2 => by omega)) ?_).mono fun r h2 _ e => ?_
      · rw [upd2_s, B.2.2.2]
        have := or_N (a := O) (b := 0) (by omega) (by decide)
        rw [Nat.or_zero] at this
        exact this
      · obtain ⟨rfl, hP2, F2, v2, B2⟩ := e
        refine S78_89_123 _ _ _ _ (fin h2 _ _ _ hP2 (F.tr (F1.tr (F2.mo fun a j c => by unfold fS3 at c; unfold fB; omega))) v2 (by rw [← hd]; exact B2))
  | succ k ih =>
    intro O r h x1 z2 z3 z4 hO hr hM hd hP F v B hx
    by_cases q : x1 = 0
    · subst q
      exact fin h _ _ _ hP F v (by rw [← hx rfl]; exact B)
    · have hM0 : 0 ≤ qM (mq5 b) O ∧ qM (mq5 b) O ≤ 20 := bM_r
      have t := T.1
      have hcq := cq_nn (q := mq5 b) (O := O)
      have hle : cq (mq5 b) O ≤ qM (mq5 b) O := by
        refine su_mono fun i _ => ?_
        unfold ind
        cases hF : fq (mq5 b) O i
        · rw [if_neg (by decide)]; split <;> omega
        · rw [if_pos rfl, if_pos (fq_in hF)]; omega
      have e5 : h 89 5 = b 89 5 := congrFun (congrFun hP 89) 5
      have bl := bys_lt (F := fq (mq5 b) O) 20
      have stop : moreq (mq5 b) O = false → ∀ z2 z3 z4 : aV, Wp X 2 74 0 [vr 89, vu] [] (upd2 h 89 20 ((i32 (h 89 20) ||| i32 0).toInt)) (fun v h' => Wp X 3 78 123 [vr 89, vi 0, z2, z3, z4] (psh v []) h' Q) := by
        intro hm z2 z3 z4
        rw [dr_end hm] at hd
        have F1 : Fr fB h (upd2 h 89 20 ((i32 (h 89 20) ||| i32 0).toInt)) := Fr.rf.up (.inr ⟨rfl, by decide, by decide⟩)
        refine (K74 hO T s ((P_up rfl).trans hP) (v.fr (C := fun a j => a = 89 ∧ j = 20) (Fr.rf.up ⟨rfl, rfl⟩) (by omega) (fun a j a1 a2 => by omega)) ?_).mono fun r h2 _ e => ?_
        · rw [upd2_s, B.2.2.2]
          have := or_N (a := O) (b := 0) (by omega) (by decide)
          rw [Nat.or_zero] at this
          exact this
        · obtain ⟨rfl, hP2, F2, v2, B2⟩ := e
          exact S78_89_123 _ _ _ _ (fin h2 _ _ _ hP2 (F.tr (F1.tr (F2.mo fun a j c => by unfold fS3 at c; unfold fB; omega))) v2 (by rw [← hd]; exact B2))
      have nm : ¬ (0 < cq (mq5 b) O ∧ 2 ≤ qM (mq5 b) O - cq (mq5 b) O) → moreq (mq5 b) O = false := fun w => decide_eq_false w
      refine S78_89_26 _ _ _ _ ⟨fun w => absurd w q, fun _ => L78 hO T s hP v B (fun z => ?_) (b 89 5).toNat 0 (vi x1) (by omega)⟩
      refine S78_89_37 _ _ _ _ ⟨fun _ => ⟨fun w => stop (nm (by omega)) _ _ _, fun w => ⟨by rw [B.1]; unfold R32; omega, fun w2 => stop (nm (by rw [B.1] at w2; omega)) _ _ _, fun w2 => ?_⟩⟩, fun w => absurd w (by omega)⟩
      rw [B.1] at w2
      have hm : moreq (mq5 b) O = true := moreq_iff.mpr ⟨w, w2⟩
      rw [dr_more hm] at hd
      have F1 : Fr fB h (upd2 h 89 20 ((i32 (h 89 20) ||| i32 (bys (fq (mq5 b) O) 20 : Int)).toInt)) := Fr.rf.up (.inr ⟨rfl, by decide, by decide⟩)
      refine (K74 (O := nxq (mq5 b) O) (nxq_lt hO) T s ((P_up rfl).trans hP) (v.fr (C := fun a j => a = 89 ∧ j = 20) (Fr.rf.up ⟨rfl, rfl⟩) (by omega) (fun a j a1 a2 => by omega)) ?_).mono fun r h2 _ e => ?_
      · rw [upd2_s, B.2.2.2, or_N (by omega) (by omega)]; rfl
      · obtain ⟨rfl, hP2, F2, v2, B2⟩ := e
        exact S78_89_123 _ _ _ _ (ih (nxq (mq5 b) O) (r + 1) h2 _ _ _ _ (nxq_lt hO) (by omega) (by rw [qM_nx]; omega) hd hP2 (F.tr (F1.tr (F2.mo fun a j c => by unfold fS3 at c; unfold fB; omega))) v2 B2 (fun e => absurd e (by decide)))
theorem K78 (T : Tok b) (s : Sok b) (hP : P h0 = P b) : Wp X 3 78 0 [vr 89, vu, vu, vu, vu] [] h0 (fun r h => r = some (vi (if 0 < qM (mq5 b) (ob (mq5 b)) then 1 else 0)) ∧ P h = P b ∧ Fr fB h0 h ∧ VV b h ∧ BB (mq5 b) (ob (mq5 b)) h) := by
  refine S78_89_0 ((K70 hP T).mono fun r h1 _ e => ?_)
  obtain ⟨rfl, hP1, F1, v1⟩ := e
  have F2 : Fr fB h1 (upd2 h1 89 20 0) := Fr.rf.up (.inr ⟨rfl, by decide, by decide⟩)
  refine S78_89_4 ((K74 (O := 0) (by decide) T s ((P_up rfl).trans hP1) (v1.fr (C := fun a j => a = 89 ∧ j = 20) (Fr.rf.up ⟨rfl, rfl⟩) (by omega) (fun a j a1 a2 => by omega)) upd2_s).mono fun r h2 _ e => ?_)
  obtain ⟨rfl, hP2, F3, v2, B2⟩ := e
  have hF : Fr fB h0 h2 := (F1.mo fun a j c => by unfold fVv at c; unfold fB; omega).tr (F2.tr (F3.mo fun a j c => by unfold fS3 at c; unfold fB; omega))
  have hM0 : 0 ≤ qM (mq5 b) 0 ∧ qM (mq5 b) 0 ≤ 20 := bM_r
  have hle : cq (mq5 b) 0 ≤ qM (mq5 b) 0 := by
    refine su_mono fun i _ => ?_
    unfold ind
    cases hF : fq (mq5 b) 0 i
    · rw [if_neg (by decide)]; split <;> omega
    · rw [if_pos rfl, if_pos (fq_in hF)]; omega
  have go : ∀ x1 : Int, (x1 = 0 → 0 = ob (mq5 b)) → Wp X 3 78 26 [vr 89, vi x1, vu, vu, vu] [] h2 (fun r h => r = some (vi (if 0 < qM (mq5 b) (ob (mq5 b)) then 1 else 0)) ∧ P h = P b ∧ Fr fB h0 h ∧ VV b h ∧ BB (mq5 b) (ob (mq5 b)) h) := fun x1 => L78b (X := X) (h0 := h0) T s (fun h hP F v B => ⟨rfl, hP, F, v, B⟩) 20 0 0 h2 x1 vu vu vu (by decide) rfl (by omega) rfl hP2 hF v2 B2
  refine S78_89_13 ?_
  rw [B2.1]
  refine ⟨fun w => go 0 (fun _ => ?_), fun w => go 1 (fun e => absurd e (by decide))⟩
  have hm : moreq (mq5 b) 0 = false := decide_eq_false (by have := cq_nn (q := mq5 b) (O := 0); omega)
  exact (dr_end hm 20).symm
end
