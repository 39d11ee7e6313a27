-- ===== fractions in lowest terms =====
def prt (a b what : Int) : Int := Int.tdiv (if what = 0 then a else b) (Nat.gcd a.toNat b.toNat : Int)
section
variable {X : Nat × (Int → Int)} {h : HP}
theorem gcd_st {a b : Nat} (h : b ≠ 0) : Nat.gcd b (a % b) = Nat.gcd a b := by
  rw [Nat.gcd_comm b (a % b), ← Nat.gcd_rec b a, Nat.gcd_comm b a]
theorem mod_half {b r : Nat} (h : r ≠ 0) (hr : r < b) : 2 * (b % r) < b := by
  have h1 : b % r < r := Nat.mod_lt _ (by omega)
  have h2 : r * (b / r) + b % r = b := Nat.div_add_mod b r
  have h3 : 1 ≤ b / r := (Nat.one_le_div_iff (by omega)).mpr (by omega)
  have h4 : r * 1 ≤ r * (b / r) := Nat.mul_le_mul_left r h3
  omega
theorem L46 : ∀ (k a b : Nat) (s : Int) (z0 z2 z9 : aV), b < 2 ^ k → 0 ≤ s → s + 2 * k ≤ 198 → Wp X 0 46 9 [z0, vu, z2, vu, vl (a : Int), vu, vl (b : Int), vu, vi s, z9, vu] [] h (fun r h' => r = some (vl (Nat.gcd a b : Int)) ∧ h' = h) := by
  intro k
  induction k with
  | zero =>
    intro a b s z0 z2 z9 hb hs hk
    have hb : b = 0 := by simp at hb; omega
    subst hb
    refine S46_9 _ _ _ _ _ _ ?_
    rw [lcp_e, lcp_n]
    exact ⟨fun _ => ⟨by rw [Nat.gcd_zero_right], rfl⟩, fun q => absurd rfl q⟩
  | succ k ih =>
    intro a b s z0 z2 z9 hb hs hk
    refine S46_9 _ _ _ _ _ _ ?_
    rw [lcp_e, lcp_n]
    refine ⟨fun q => ⟨by rw [show b = 0 by omega, Nat.gcd_zero_right], rfl⟩, fun q => ⟨fun c => absurd c (by omega), fun _ => ⟨q, by unfold R32; omega, ?_⟩⟩⟩
    have hb0 : b ≠ 0 := by omega
    rw [← Int.ofNat_tmod, ← gcd_st hb0]
    refine S46_9 _ _ _ _ _ _ ?_
    rw [lcp_e, lcp_n]
    refine ⟨fun q => ⟨by rw [show a % b = 0 by omega, Nat.gcd_zero_right], rfl⟩, fun q => ⟨fun c => absurd c (by omega), fun _ => ⟨q, by unfold R32; omega, ?_⟩⟩⟩
    have hr0 : a % b ≠ 0 := by omega
    have hr : a % b < b := Nat.mod_lt _ (by omega)
    have hh := mod_half hr0 hr
    rw [← Int.ofNat_tmod, ← gcd_st hr0]
    rw [Nat.pow_succ] at hb
    exact ih (a % b) (b % (a % b)) (s + 1 + 1) z0 z2 _ (by omega) (by omega) (by omega)
theorem K46 {a b : Nat} (hb : b < 2 ^ 62) : Wp X 0 46 0 [vl (a : Int), vu, vl (b : Int), vu, vu, vu, vu, vu, vu, vu, vu] [] h (fun r h' => r = some (vl (Nat.gcd a b : Int)) ∧ h' = h) :=
  S46_0 _ _ (L46 62 a b 0 _ _ vu hb (by omega) (by omega))
theorem L60 : ∀ (k a b : Nat) (z0 z2 z8 : aV), b < k → Wp X 0 60 17 [z0, vu, z2, vu, vl (a : Int), vu, vl (b : Int), vu, z8, vu] [] h (fun r h' => r = some (vl (Nat.gcd a b : Int)) ∧ h' = h) := by
  intro k
  induction k with
  | zero => intro a b z0 z2 z8 hb; exact absurd hb (Nat.not_lt_zero b)
  | succ k ih =>
    intro a b z0 z2 z8 hb
    refine S60_17 _ _ _ _ _ ?_
    rw [lcp_e, lcp_n]
    refine ⟨fun q => ⟨by rw [show b = 0 by omega, Nat.gcd_zero_right], rfl⟩, fun q => ⟨q, ?_⟩⟩
    have hb0 : b ≠ 0 := by omega
    have hr : a % b < b := Nat.mod_lt _ (by omega)
    rw [← Int.ofNat_tmod, ← gcd_st hb0]
    exact ih b (a % b) z0 z2 _ (by omega)
theorem K60 {a b : Nat} : Wp X 0 60 0 [vl (a : Int), vu, vl (b : Int), vu, vu, vu, vu, vu, vu, vu] [] h (fun r h' => r = some (vl (Nat.gcd a b : Int)) ∧ h' = h) := by
  refine S60_0 _ _ ?_
  rw [lcp_l, lcp_ge]
  exact ⟨fun _ => L60 (b + 1) a b _ _ vu (by omega), fun q => absurd q (by omega)⟩
theorem prt_r {a b what : Int} (ha : 0 ≤ a) (hb : 0 < b) : 0 ≤ prt a b what ∧ prt a b what ≤ (if what = 0 then a else b) := by
  unfold prt
  have g : 0 < Nat.gcd a.toNat b.toNat := Nat.gcd_pos_of_pos_right _ (by omega)
  generalize hx : (if what = 0 then a else b) = x
  have hx0 : 0 ≤ x := by rw [← hx]; split <;> omega
  rw [Int.tdiv_eq_ediv_of_nonneg hx0]
  exact ⟨Int.ediv_nonneg hx0 (by omega), Int.ediv_le_self _ hx0⟩
theorem K45 {a b what : Int} (ha : 0 ≤ a ∧ a < 4611686018427387904) (hb : 0 < b ∧ b < 4611686018427387904) : Wp X 1 45 0 [vl a, vu, vl b, vu, vi what, vu, vu] [] h (fun r h' => r = some (vl (prt a b what)) ∧ h' = h) := by
  have pr := prt_r (what := what) ha.1 hb.1
  unfold prt at pr ⊢
  obtain ⟨m, rfl⟩ : ∃ m : Nat, a = m := ⟨a.toNat, by omega⟩
  obtain ⟨n, rfl⟩ : ∃ n : Nat, b = n := ⟨b.toNat, by omega⟩
  have g : 0 < Nat.gcd m n := Nat.gcd_pos_of_pos_right _ (by omega)
  rw [show Int.toNat (m : Int) = m from rfl, show Int.toNat (n : Int) = n from rfl] at pr ⊢
  refine S45_0 _ _ _ ((K46 (by omega)).mono fun v h1 _ e => ?_)
  obtain ⟨rfl, rfl⟩ := e
  refine S45_5 _ _ _ _ ?_
  rw [lcp_g, lcp_le]
  refine ⟨fun _ => ⟨fun q => ⟨by omega, ?_, ?_, rfl⟩, fun q => ⟨by omega, ?_, ?_, rfl⟩⟩, fun q => absurd q (by omega)⟩
  · rw [if_neg q] at pr; unfold R64; omega
  · rw [if_neg q]
  · rw [if_pos q] at pr; unfold R64; omega
  · rw [if_pos q]
theorem K61 {a b what : Int} (ha : 0 ≤ a ∧ a < 4611686018427387904) (hb : 0 < b ∧ b < 4611686018427387904) : Wp X 1 61 0 [vl a, vu, vl b, vu, vi what] [] h (fun r h' => r = some (vl (prt a b what)) ∧ h' = h) := by
  have pr := prt_r (what := what) ha.1 hb.1
  unfold prt at pr ⊢
  obtain ⟨m, rfl⟩ : ∃ m : Nat, a = m := ⟨a.toNat, by omega⟩
  obtain ⟨n, rfl⟩ : ∃ n : Nat, b = n := ⟨b.toNat, by omega⟩
  have g : 0 < Nat.gcd m n := Nat.gcd_pos_of_pos_right _ (by omega)
  rw [show Int.toNat (m : Int) = m from rfl, show Int.toNat (n : Int) = n from rfl] at pr ⊢
  refine S61_0 _ _ _ ⟨fun q => K60.mono fun v h1 _ e => ?_, fun q => K60.mono fun v h1 _ e => ?_⟩
  · obtain ⟨rfl, rfl⟩ := e
    rw [if_neg q] at pr ⊢
    exact S61_15 _ _ _ _ _ ⟨by omega, by unfold R64; omega, rfl, rfl⟩
  · obtain ⟨rfl, rfl⟩ := e
    rw [if_pos q] at pr ⊢
    exact S61_15 _ _ _ _ _ ⟨by omega, by unfold R64; omega, rfl, rfl⟩
end
-- ===== what stands between the calls =====
def NT (h : HP) : Prop := (h 69 2 = 72 ∧ h 69 3 = 73) ∨ (h 69 2 = 73 ∧ h 69 3 = 72)
def I_set (b : HP) : Prop := (∀ j : Int, 0 ≤ j → j < 10 → b 7 j = b 97 j) ∧ Sok b ∧ (0 ≤ b 97 3 ∧ b 97 3 ≤ 999) ∧ (0 ≤ b 97 4 ∧ b 97 4 ≤ 99) ∧ (0 ≤ b 97 5 ∧ b 97 5 ≤ 9999) ∧ (0 ≤ b 97 6 ∧ b 97 6 ≤ 19) ∧ (1 ≤ b 97 7 ∧ b 97 7 ≤ 8) ∧ (0 ≤ b 97 8 ∧ b 97 8 ≤ 99) ∧ (0 ≤ b 97 9 ∧ b 97 9 ≤ 99)
def I_tel (b : HP) : Prop := Tok b ∧ (∀ i j : Nat, i ≤ j → (j : Int) < b 89 6 → b 96 i ≤ b 96 j) ∧ (∀ i : Nat, (i : Int) < b 89 6 → 0 ≤ b 96 i ∧ b 96 i ≤ 999) ∧ b 8 8 = b 89 5 ∧ b 8 7 = b 89 6 ∧ ∀ i : Nat, (i : Int) < b 89 6 → 0 ≤ b 9 i ∧ b 9 i < b 89 5 ∧ 0 ≤ b 10 i ∧ b 10 i < 5 ∧ 5 * b 9 i + b 10 i = b 94 i ∧ b 11 i = b 95 i ∧ b 12 i = b 96 i
def I_der (b : HP) : Prop := Der (mq5 b) b
def I_txt (T : Nat) (t : Int) (b : HP) : Prop := b T 4 = b 104 t ∧ (∀ p : Int, 0 ≤ p → p < b 104 t → b (T + 1) p = b 103 (50 * t + p)) ∧ TXd T b (Wt b t) (b 104 t)
def I_X (b : HP) : Prop := Xok b ∧ I_txt 45 0 b ∧ I_txt 53 1 b
def I_sh (S : Nat) (s : Int) (b : HP) : Prop := b S 1 = b 90 s ∧ -1 ≤ b 90 s ∧ b 90 s ≤ 2 ∧ 0 ≤ b 91 s ∧ b 91 s ≤ 60 ∧ (0 ≤ b 90 s → b S 2 = b 91 s ∧ ∀ i : Int, 0 ≤ i → i < b 91 s → b (S + 1) i = b 92 (60 * s + i) ∧ R32 (b 92 (60 * s + i)))
def I_H (b : HP) : Prop := I_sh 81 0 b ∧ I_sh 83 1 b ∧ I_sh 85 2 b ∧ I_sh 87 3 b
def I_C (b : HP) : Prop := 0 ≤ b 89 38 ∧ b 89 38 ≤ 12 ∧ b 77 2 = b 89 38 ∧ ∀ i : Nat, (i : Int) < b 89 38 → 0 ≤ b 118 i ∧ b 118 i ≤ 5 ∧ 0 ≤ b 119 i ∧ b 119 i ≤ 19 ∧ b 78 i = b 118 i ∧ b 79 i = b 119 i
def I_O (b : HP) : Prop := (∀ c : Int, 0 ≤ c → c < 8 → 0 ≤ b 111 c ∧ b 70 c = b 111 c) ∧ su (b 111) 8 = 64
def I_L (b : HP) : Prop := 0 ≤ b 89 4 ∧ b 89 4 ≤ 5 ∧ b 6 10 = b 89 4
def Inv0 (b : HP) : Prop := I_set b ∧ I_tel b ∧ I_der b ∧ I_X b ∧ I_H b ∧ I_C b ∧ I_O b ∧ I_L b
def Inv (h : HP) : Prop := Inv0 h ∧ NT h
theorem scb_to {a : Nat} {j : Int} (h : scb a j = true) : scr a j := by
  unfold scb at h
  by_cases c1 : 61 ≤ a ∧ a ≤ 76 ∧ a ≠ 70
  · exact .inl c1
  by_cases c2 : a = 93
  · exact .inr (.inl c2)
  by_cases c3 : 98 ≤ a ∧ a ≤ 102
  · exact .inr (.inr (.inl c3))
  by_cases c4 : 105 ≤ a ∧ a ≤ 110
  · exact .inr (.inr (.inr (.inl c4)))
  by_cases c5 : 112 ≤ a ∧ a ≤ 117
  · exact .inr (.inr (.inr (.inr (.inl c5))))
  have b1 : (Nat.ble 61 a && Nat.ble a 76 && !(Nat.beq a 70)) = false := by
    apply Bool.eq_false_iff.mpr
    intro e
    simp only [Bool.and_eq_true, Nat.ble_eq, Bool.not_eq_true'] at e
    exact c1 ⟨e.1.1, e.1.2, fun q => by rw [q] at e; exact absurd e.2 (by decide)⟩
  have b2 : Nat.beq a 93 = false := by
    apply Bool.eq_false_iff.mpr
    intro e
    exact c2 (Nat.eq_of_beq_eq_true e)
  have b3 : (Nat.ble 98 a && Nat.ble a 102) = false := by
    apply Bool.eq_false_iff.mpr
    intro e
    simp only [Bool.and_eq_true, Nat.ble_eq] at e
    exact c3 e
  have b4 : (Nat.ble 105 a && Nat.ble a 110) = false := by
    apply Bool.eq_false_iff.mpr
    intro e
    simp only [Bool.and_eq_true, Nat.ble_eq] at e
    exact c4 e
  have b5 : (Nat.ble 112 a && Nat.ble a 117) = false := by
    apply Bool.eq_false_iff.mpr
    intro e
    simp only [Bool.and_eq_true, Nat.ble_eq] at e
    exact c5 e
  rw [b1, b2, b3, b4, b5] at h
  simp only [cond_false] at h
  cases b6 : Nat.beq a 89
  · rw [b6] at h; cases h
  · rw [b6] at h
    simp only [cond_true, Bool.and_eq_true, decide_eq_true_eq] at h
    exact .inr (.inr (.inr (.inr (.inr ⟨Nat.eq_of_beq_eq_true b6, h.1.1.1, h.1.1.2, h.1.2, h.2⟩))))
theorem P_fr {h h' : HP} (e : P h' = P h) : Fr scr h h' := by
  intro a j n
  have q := congrFun (congrFun e a) j
  unfold P at q
  cases c : scb a j
  · rw [c] at q; exact q
  · exact absurd (scb_to c) n
theorem Der_q {q : LN} {h h' : HP} (hG : q.2.1 ≤ 20) (d : Der q h) (F : Fr scr h h') : Der q h' :=
  ⟨(F 8 8 (by unfold scr; omega)).trans d.1, d.2.1.fr hG F (by unfold scr; omega) (fun a j a1 a2 => by unfold scr; omega), d.2.2.1.fr F (fun j => by unfold scr; omega), d.2.2.2.fr F (by unfold scr; omega) (fun a j a1 a2 => by unfold scr; omega)⟩
theorem mq5_P (h : HP) : mq5 (P h) = mq5 h := rfl
theorem mq5_q {h h' : HP} (e : P h' = P h) : mq5 h' = mq5 h := by rw [← mq5_P, e, mq5_P]
theorem I_set_P (h : HP) : I_set (P h) = I_set h := rfl
theorem I_tel_P (h : HP) : I_tel (P h) = I_tel h := rfl
theorem I_X_P (h : HP) : I_X (P h) = I_X h := rfl
theorem I_H_P (h : HP) : I_H (P h) = I_H h := rfl
theorem I_C_P (h : HP) : I_C (P h) = I_C h := rfl
theorem I_O_P (h : HP) : I_O (P h) = I_O h := rfl
theorem I_L_P (h : HP) : I_L (P h) = I_L h := rfl
theorem I_der_q {h h' : HP} (hG : h 89 5 ≤ 20) (i : I_der h) (e : P h' = P h) : I_der h' := by
  unfold I_der at i ⊢
  rw [mq5_q e]
  exact Der_q hG i (P_fr e)
theorem Inv0_q {h h' : HP} (i : Inv0 h) (e : P h' = P h) : Inv0 h' := by
  obtain ⟨i1, i2, i3, i4, i5, i6, i7, i8⟩ := i
  refine ⟨?_, ?_, I_der_q i2.1.1.2.1 i3 e, ?_, ?_, ?_, ?_, ?_⟩
  · rw [← I_set_P, e, I_set_P]; exact i1
  · rw [← I_tel_P, e, I_tel_P]; exact i2
  · rw [← I_X_P, e, I_X_P]; exact i4
  · rw [← I_H_P, e, I_H_P]; exact i5
  · rw [← I_C_P, e, I_C_P]; exact i6
  · rw [← I_O_P, e, I_O_P]; exact i7
  · rw [← I_L_P, e, I_L_P]; exact i8
theorem Inv_q {h h' : HP} (i : Inv h) (e : P h' = P h) (n : NT h') : Inv h' := ⟨Inv0_q i.1 e, n⟩
/-- what the reference's calls that only ask may change -/
def fM (a : Nat) (j : Int) : Prop := 89 ≤ a ∧ scr a j
theorem NT.fr {h h' : HP} (n : NT h) (F : Fr fM h h') : NT h' := by
  unfold NT
  rw [F 69 2 (by unfold fM; omega), F 69 3 (by unfold fM; omega)]
  exact n
