-- ===== the orders, one after another =====
theorem cb {α : Type} {a b : Nat} {x y : α} : cond (Nat.ble a b) x y = if a ≤ b then x else y := by
  by_cases h : a ≤ b
  · rw [Nat.ble_eq_true_of_le h, if_pos h]; rfl
  · rw [if_neg h]
    have : Nat.ble a b = false := by
      cases e : Nat.ble a b with
      | false => rfl
      | true => exact absurd (Nat.le_of_ble_eq_true e) h
    rw [this]; rfl
def fx1 (π : List Nat) : Nat → Option Nat
  | 0 => none
  | k + 1 => cond (Nat.ble (π.getD k 0) (π.getD (k + 1) 0)) (some k) (fx1 π k)
def fx2 (π : List Nat) (v : Nat) : Nat → Nat
  | 0 => 0
  | k + 1 => cond (Nat.ble v (π.getD k 0)) k (fx2 π v k)
def swp (π : List Nat) (a b : Nat) : List Nat := (π.set a (π.getD b 0)).set b (π.getD a 0)
def rvs : Nat → Nat → Nat → List Nat → List Nat
  | 0, _, _, π => π
  | f + 1, a, b, π => cond (Nat.ble b a) π (rvs f (a + 1) (b - 1) (swp π a b))
def nxt (π : List Nat) : Option (List Nat) := match fx1 π (π.length - 1) with
  | none => none
  | some a => some (rvs π.length (a + 1) (π.length - 1) (swp π a (fx2 π (π.getD a 0) π.length)))
def hsN (i : Nat) : List Nat → Bool
  | [] => false
  | a :: l => cond (Nat.beq a i) true (hsN i l)
def apx (F : Nat → List (List Nat)) : Nat → List (List Nat) → List (List Nat)
  | 0, acc => acc
  | i + 1, acc => apx F i (F i ++ acc)
def pext (n : Nat) : Nat → List Nat → List (List Nat)
  | 0, pre => [pre]
  | f + 1, pre => apx (fun i => cond (hsN i pre) [] (pext n f (pre ++ [i]))) n []
def PL (n : Nat) : List (List Nat) := pext n n []
def leq : List Nat → List Nat → Bool
  | [], [] => true
  | a :: l, b :: m => cond (Nat.beq a b) (leq l m) false
  | _, _ => false
def nxb (π q : List Nat) : Bool := match nxt π with
  | none => false
  | some r => leq r q
def ckp (prev : List Nat) : List (List Nat) → Bool
  | [] => match nxt prev with
    | none => true
    | some _ => false
  | π :: r => cond (nxb prev π) (ckp π r) false
def lok (n : Nat) : List (List Nat) → Bool
  | [] => true
  | π :: r => cond (Nat.beq π.length n) (cond (π.all fun k => Nat.blt k n) (lok n r) false) false
def fct : Nat → Nat
  | 0 => 1
  | n + 1 => (n + 1) * fct n
def PLc (n : Nat) : Bool := ckp (List.range n) (PL n).tail && lok n (PL n) && leq ((PL n).headD []) (List.range n) && Nat.beq (PL n).length (fct n)
theorem PL_ok6 : ((List.range 7).all PLc) = true := by decide +kernel
theorem PL_ok7 : PLc 7 = true := by decide +kernel
theorem getD_set : ∀ (l : List Nat) (i j : Nat) (v : Nat), i < l.length → (l.set i v).getD j 0 = if j = i then v else l.getD j 0
  | [], _, _, _, h => absurd h (Nat.not_lt_zero _)
  | _ :: _, 0, 0, _, _ => rfl
  | _ :: _, 0, j + 1, _, _ => by rw [if_neg (by omega)]; rfl
  | _ :: _, i + 1, 0, _, _ => by rw [if_neg (by omega)]; rfl
  | _ :: l, i + 1, j + 1, v, h => by
    have ih := getD_set l i j v (Nat.lt_of_succ_lt_succ h)
    show (l.set i v).getD j 0 = if j + 1 = i + 1 then v else l.getD j 0
    rw [ih]
    by_cases e : j = i
    · rw [if_pos e, if_pos (by omega)]
    · rw [if_neg e, if_neg (by omega)]
def Or (h : HP) (π : List Nat) : Prop := ∀ k : Nat, k < π.length → h 110 k = (π.getD k 0 : Nat)
theorem swp_len {π : List Nat} {a b : Nat} : (swp π a b).length = π.length := by unfold swp; rw [List.length_set, List.length_set]
theorem Or_sw {h : HP} {π : List Nat} (o : Or h π) {a b : Nat} (ha : a < π.length) (hb : b < π.length) : Or (upd2 (upd2 h 110 a (h 110 b)) 110 b (h 110 a)) (swp π a b) := by
  intro k hk
  rw [swp_len] at hk
  unfold swp
  rw [getD_set _ _ _ _ (by rw [List.length_set]; exact hb), getD_set _ _ _ _ ha, upd2_at, upd2_at]
  by_cases e1 : k = b
  · rw [if_pos (by omega), if_pos e1]; exact o a ha
  · rw [if_neg (by omega), if_neg e1]
    by_cases e2 : k = a
    · rw [if_pos (by omega), if_pos e2]; exact o b hb
    · rw [if_neg (by omega), if_neg e2]; exact o k hk
section
variable {X : Nat × (Int → Int)}
theorem K103 {h : HP} {π : List Nat} (e16 : h 89 16 = π.length) (hn : π.length ≤ 7) (o : Or h π) : Wp X 1 103 0 [vr 89, vu, vu, vu, vu] [] h (fun r h' => ((nxt π = none ∧ r = some (vi 0)) ∨ (∃ π', nxt π = some π' ∧ r = some (vi 1) ∧ Or h' π')) ∧ Fr (fun a _ => a = 110) h h') := by
  have R : ∀ (f a b : Nat) (π1 : List Nat) (h1 : HP) (z1 z2 : aV), b < a + f → b < π1.length → Or h1 π1 → Fr (fun a _ => a = 110) h h1 → nxt π = some (rvs f a b π1) → π1.length ≤ 7 → Wp X 1 103 86 [vr 89, z1, z2, vi a, vi b] [] h1 (fun r h' => ((nxt π = none ∧ r = some (vi 0)) ∨ (∃ π', nxt π = some π' ∧ r = some (vi 1) ∧ Or h' π')) ∧ Fr (fun a _ => a = 110) h h') := by
    intro f
    induction f with
    | zero =>
      intro a b π1 h1 z1 z2 hb hl o1 F e h7
      exact S103_89_86 _ _ _ _ ⟨fun _ => ⟨.inr ⟨_, e, rfl, o1⟩, F⟩, fun c => absurd c (by omega)⟩
    | succ f ih =>
      intro a b π1 h1 z1 z2 hb hl o1 F e h7
      have er : rvs (f + 1) a b π1 = if b ≤ a then π1 else rvs f (a + 1) (b - 1) (swp π1 a b) := cb
      rw [er] at e
      refine S103_89_86 _ _ _ _ ⟨fun c => ⟨.inr ⟨π1, by rw [if_pos (by omega)] at e; exact e, rfl, o1⟩, F⟩, fun c => ⟨⟨by omega, by omega⟩, ⟨by omega, by omega⟩, ?_⟩⟩
      rw [if_neg (by omega)] at e
      have g := ih (a + 1) (b - 1) (swp π1 a b) _ z1 (clr1 z2) (by omega) (by rw [swp_len]; omega) (Or_sw o1 (by omega) hl) ((F.up rfl).up rfl) e (by rw [swp_len]; exact h7)
      rw [show ((b - 1 : Nat) : Int) = (b : Int) + (-1) by omega] at g
      exact g
  have L2 : ∀ (a : Nat), a + 1 < π.length → fx1 π (π.length - 1) = some a → π.getD a 0 ≤ π.getD (a + 1) 0 → ∀ k : Nat, a + 1 + k < π.length → fx2 π (π.getD a 0) π.length = fx2 π (π.getD a 0) (a + 1 + k + 1) → Wp X 1 103 47 [vr 89, vi a, vi ((a + 1 + k : Nat) : Int), vu, vu] [] h (fun r h' => ((nxt π = none ∧ r = some (vi 0)) ∨ (∃ π', nxt π = some π' ∧ r = some (vi 1) ∧ Or h' π')) ∧ Fr (fun a _ => a = 110) h h') := by
    intro a ha e1 le k
    have en : nxt π = some (rvs π.length (a + 1) (π.length - 1) (swp π a (fx2 π (π.getD a 0) π.length))) := by unfold nxt; rw [e1]
    have hit : ∀ q : Nat, a < q → q < π.length → fx2 π (π.getD a 0) π.length = q → (R32 ((h 89 16) - 1) ∧ Wp X 1 103 86 [vr 89, vi a, vi q, vi ((a : Int) + 1), vi ((h 89 16) - 1)] [] (upd2 (upd2 h 110 a (h 110 q)) 110 q (h 110 a)) (fun r h' => ((nxt π = none ∧ r = some (vi 0)) ∨ (∃ π', nxt π = some π' ∧ r = some (vi 1) ∧ Or h' π')) ∧ Fr (fun a _ => a = 110) h h')) := by
      intro q hq hq2 eq
      rw [eq] at en
      have g := R π.length (a + 1) (π.length - 1) (swp π a q) _ (vi a) (vi q) (by omega) (by rw [swp_len]; omega) (Or_sw o (a := a) (b := q) (by omega) hq2) ((Fr.rf.up rfl).up rfl) en (by rw [swp_len]; exact hn)
      rw [e16]
      rw [show ((π.length - 1 : Nat) : Int) = (π.length : Int) - 1 by omega] at g
      exact ⟨by unfold R32; omega, g⟩
    have oa := o a (by omega)
    induction k with
    | zero =>
      intro hk ef
      have er : fx2 π (π.getD a 0) (a + 1 + 0 + 1) = if π.getD a 0 ≤ π.getD (a + 1) 0 then a + 1 else fx2 π (π.getD a 0) (a + 1) := cb
      rw [er, if_pos le] at ef
      have oq := o (a + 1) (by omega)
      refine S103_89_47 _ _ ⟨⟨by omega, by omega⟩, ⟨by omega, by omega⟩, fun _ => hit (a + 1) (by omega) (by omega) ef, fun c => absurd c ?_⟩
      rw [show ((a + 1 + 0 : Nat) : Int) = ((a + 1 : Nat) : Int) from rfl, oa, oq]
      omega
    | succ k ih =>
      intro hk ef
      have er : fx2 π (π.getD a 0) (a + 1 + (k + 1) + 1) = if π.getD a 0 ≤ π.getD (a + 1 + (k + 1)) 0 then a + 1 + (k + 1) else fx2 π (π.getD a 0) (a + 1 + (k + 1)) := cb
      rw [er] at ef
      have oq := o (a + 1 + (k + 1)) (by omega)
      refine S103_89_47 _ _ ⟨⟨by omega, by omega⟩, ⟨by omega, by omega⟩, fun c => hit _ (by omega) (by omega) ?_, fun c => ?_⟩
      · rw [oa, oq] at c
        rw [if_pos (by omega)] at ef; exact ef
      · rw [oa, oq] at c
        rw [if_neg (by omega)] at ef
        have g := ih (by omega) ef
        rw [show ((a + 1 + (k + 1) : Nat) : Int) + (-1) = ((a + 1 + k : Nat) : Int) by omega]
        exact g
  have L1 : ∀ k : Nat, k + 1 ≤ π.length ∨ k = 0 → fx1 π (π.length - 1) = fx1 π k → Wp X 1 103 7 [vr 89, vi ((k : Int) - 1), vu, vu, vu] [] h (fun r h' => ((nxt π = none ∧ r = some (vi 0)) ∨ (∃ π', nxt π = some π' ∧ r = some (vi 1) ∧ Or h' π')) ∧ Fr (fun a _ => a = 110) h h') := by
    intro k
    induction k with
    | zero =>
      intro hk ef
      exact S103_89_7 _ ⟨fun _ => ⟨.inl ⟨by unfold nxt; rw [ef]; rfl, rfl⟩, Fr.rf⟩, fun c => absurd c (by omega)⟩
    | succ k ih =>
      intro hk ef
      have er : fx1 π (k + 1) = if π.getD k 0 ≤ π.getD (k + 1) 0 then some k else fx1 π k := cb
      rw [er] at ef
      have o1 := o k (by omega)
      have o2 := o (k + 1) (by omega)
      refine S103_89_7 _ ⟨fun c => absurd c (by omega), fun _ => ⟨⟨by omega, by omega⟩, ⟨by omega, by omega⟩, ?_⟩⟩
      rw [show ((k + 1 : Nat) : Int) - 1 + 1 = ((k + 1 : Nat) : Int) by omega, show ((k + 1 : Nat) : Int) - 1 = (k : Int) by omega, o1, o2]
      refine ⟨fun c => ?_, fun c => ?_⟩
      · rw [if_pos (by omega)] at ef
        have g := L2 k (by omega) ef (by omega) (π.length - 1 - (k + 1)) (by omega) (by rw [show k + 1 + (π.length - 1 - (k + 1)) + 1 = π.length by omega])
        rw [show k + 1 + (π.length - 1 - (k + 1)) = π.length - 1 by omega] at g
        rw [e16]
        rw [show ((π.length - 1 : Nat) : Int) = (π.length : Int) - 1 by omega] at g
        exact ⟨by unfold R32; omega, g⟩
      · rw [if_neg (by omega)] at ef
        exact ih (by omega) ef
  refine S103_89_0 ⟨by rw [e16]; unfold R32; omega, ?_⟩
  rw [e16]
  by_cases z : π.length = 0
  · refine S103_89_7 _ ⟨fun _ => ⟨.inl ⟨by unfold nxt; rw [z]; rfl, rfl⟩, Fr.rf⟩, fun c => absurd c (by omega)⟩
  · have g := L1 (π.length - 1) (by omega) rfl
    rw [show ((π.length - 1 : Nat) : Int) - 1 = (π.length : Int) - 2 by omega] at g
    exact g
end
