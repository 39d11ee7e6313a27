-- ===== the model's chance =====
theorem getD_ge : ∀ (l : List Nat) (k : Nat) (h : k < l.length), l.getD k 0 = l[k]
  | _ :: _, 0, _ => rfl
  | _ :: l, k + 1, h => getD_ge l k (Nat.lt_of_succ_lt_succ h)
theorem leq_eq : ∀ {l m : List Nat}, leq l m = true → l = m
  | [], [], _ => rfl
  | [], _ :: _, h => absurd (show (false : Bool) = true from h) (by decide)
  | _ :: _, [], h => absurd (show (false : Bool) = true from h) (by decide)
  | a :: l, b :: m, h => by
    have h : cond (Nat.beq a b) (leq l m) false = true := h
    cases e : Nat.beq a b with
    | false => rw [e] at h; exact absurd (show (false : Bool) = true from h) (by decide)
    | true => rw [e] at h; rw [Nat.eq_of_beq_eq_true e, leq_eq h]
def Opk (n : Nat) (π : List Nat) : Prop := π.length = n ∧ ∀ k : Nat, k < n → π.getD k 0 < n
theorem lok_all {n : Nat} : ∀ {L : List (List Nat)}, lok n L = true → ∀ π, π ∈ L → Opk n π
  | [], _, _, m => nomatch m
  | ρ :: L, h, π, m => by
    have h : cond (Nat.beq ρ.length n) (cond (ρ.all fun k => Nat.blt k n) (lok n L) false) false = true := h
    cases e1 : Nat.beq ρ.length n with
    | false => rw [e1] at h; exact absurd (show (false : Bool) = true from h) (by decide)
    | true =>
      rw [e1] at h
      have h : cond (ρ.all fun k => Nat.blt k n) (lok n L) false = true := h
      cases e2 : ρ.all fun k => Nat.blt k n with
      | false => rw [e2] at h; exact absurd (show (false : Bool) = true from h) (by decide)
      | true =>
        rw [e2] at h
        have h : lok n L = true := h
        rcases List.mem_cons.mp m with rfl | m
        · refine ⟨Nat.eq_of_beq_eq_true e1, fun k hk => ?_⟩
          have hl : k < π.length := by rw [Nat.eq_of_beq_eq_true e1]; exact hk
          rw [show π.getD k 0 = π[k] from getD_ge π k hl]
          exact Nat.le_of_ble_eq_true (List.all_eq_true.mp e2 π[k] (List.getElem_mem hl))
        · exact lok_all h π m
theorem PL_fact {n : Nat} (hn : n ≤ 7) : ∃ r, PL n = List.range n :: r ∧ ckp (List.range n) r = true ∧ (∀ π, π ∈ PL n → Opk n π) ∧ (PL n).length = fct n := by
  have key : PLc n = true := by
    by_cases e : n = 7
    · rw [e]; exact PL_ok7
    · exact List.all_eq_true.mp PL_ok6 n (List.mem_range.mpr (by omega))
  have key : (ckp (List.range n) (PL n).tail && lok n (PL n) && leq ((PL n).headD []) (List.range n) && Nat.beq (PL n).length (fct n)) = true := key
  rw [Bool.and_eq_true, Bool.and_eq_true, Bool.and_eq_true] at key
  obtain ⟨⟨⟨k1, k2⟩, k3⟩, k4⟩ := key
  have k3 := leq_eq k3
  have k4 := Nat.eq_of_beq_eq_true k4
  have k2 := lok_all k2
  have fp : ∀ m : Nat, 0 < fct m := fun m => by
    induction m with
    | zero => decide
    | succ m ih => exact Nat.mul_pos (by omega) ih
  cases e : PL n with
  | nil => rw [e] at k4; have := fp n; exact absurd k4 (by show ¬ (0 = fct n); omega)
  | cons π r =>
    rw [e] at k1 k2 k3 k4
    have k3 : π = List.range n := k3
    exact ⟨r, by rw [k3], by exact k1, k2, k4⟩
theorem fct_r {n : Nat} (hn : n ≤ 7) : 1 ≤ fct n ∧ fct n ≤ 5040 := by
  rcases (show n = 0 ∨ n = 1 ∨ n = 2 ∨ n = 3 ∨ n = 4 ∨ n = 5 ∨ n = 6 ∨ n = 7 by omega) with rfl | rfl | rfl | rfl | rfl | rfl | rfl | rfl <;> decide
def ssum (φ : List Nat → Int) : List (List Nat) → Int
  | [] => 0
  | π :: r => φ π + ssum φ r
def pml (l : List Int) (π : List Nat) : List Int := π.map fun k => l.getD k 0
theorem pml_at {l : List Int} : ∀ {π : List Nat} {k : Nat}, k < π.length → (pml l π).getD k 0 = l.getD (π.getD k 0) 0
  | [], _, h => absurd h (Nat.not_lt_zero _)
  | _ :: _, 0, _ => rfl
  | _ :: π, k + 1, h => pml_at (π := π) (k := k) (Nat.lt_of_succ_lt_succ h)
theorem pml_len {l : List Int} {π : List Nat} : (pml l π).length = π.length := List.length_map _
def pwn1 (b : HP) (t : Int) (l : List Int) (least : Int) (π : List Nat) : Int := if least ≤ wcn b t (pml l π) l.length then 1 else 0
def B_chance (b : HP) (t : Int) (l : List Int) (least : Int) : Int := if l.length ≤ 7 then (1000000 * ssum (pwn1 b t l least) (PL l.length)) / (fct l.length : Int) else -4
section
variable {X : Nat × (Int → Int)}
theorem K105 {b h : HP} {t : Int} {l : List Int} {least : Int} (i : Inv b) (hP : P h = P b) (v : VV b h) (B : BB (mq5 b) (ob (mq5 b)) h) (hM : 0 < qM (mq5 b) (ob (mq5 b))) (el : l = rwl (VL b) (gn b)) (m : MS h (Wt b t) (NRu (Wt b t) (b 104 t))) : Wp X 5 105 0 [vr 89, vi least, vu, vu, vu, vu] [] h (fun r h' => r = some (vi (B_chance b t l least)) ∧ Fr (fun a _ => a = 109 ∨ a = 110) h h') := by
  have e16 : h 89 16 = l.length := by rw [el]; exact v.2.2.2
  have ar : Ar (h 102) l := by rw [el]; exact v.2.2.1
  have tk := i.tok.1
  have lr : ∀ k : Nat, k < l.length → 0 ≤ l.getD k 0 ∧ l.getD k 0 < b 89 5 := fun k hk => by
    have gm : l.getD k 0 ∈ rwl (VL b) (gn b) := by rw [← el]; exact getD_mem hk
    have := i.rowm.mp gm
    omega
  have hB : B_chance b t l least = if l.length ≤ 7 then (1000000 * ssum (pwn1 b t l least) (PL l.length)) / (fct l.length : Int) else -4 := rfl
  refine S105_89_0 _ ⟨fun c => ?_, fun c => ⟨by rw [hB, if_neg (by omega)], Fr.rf⟩⟩
  have h7 : l.length ≤ 7 := by omega
  rw [if_pos h7] at hB
  obtain ⟨r0, p1, p2, p3, p4⟩ := PL_fact h7
  have fr := fct_r h7
  have pc : ∀ π, 0 ≤ pwn1 b t l least π ∧ pwn1 b t l least π ≤ 1 := fun π => by unfold pwn1; split <;> omega
  -- one order
  have STEP : ∀ (π : List Nat) (T : Nat) (Fd : Int) (h1 : HP) (z5 : aV), Opk l.length π → Or h1 π → Fr (fun a _ => a = 109 ∨ a = 110) h h1 → T ≤ 5040 → 0 ≤ Fd → Fd ≤ T → (∀ (h' : HP) (z5 : aV) (s0 : Int), ((nxt π = none ∧ s0 = 0) ∨ (∃ π', nxt π = some π' ∧ s0 = 1 ∧ Or h' π')) → Fr (fun a _ => a = 109 ∨ a = 110) h h' → Wp X 5 105 42 [vr 89, vi least, vi ((T : Int) + 1), vi (Fd + pwn1 b t l least π), vi s0, z5] [] h' (fun r h' => r = some (vi (B_chance b t l least)) ∧ Fr (fun a _ => a = 109 ∨ a = 110) h h')) → Wp X 5 105 42 [vr 89, vi least, vi T, vi Fd, vi 1, z5] [] h1 (fun r h' => r = some (vi (B_chance b t l least)) ∧ Fr (fun a _ => a = 109 ∨ a = 110) h h') := by
    intro π T Fd h1 z5 op o F hT hF hF2 H
    have L50 : ∀ (k n : Nat) (h2 : HP) (z4 : aV), n + k = l.length → Fr (fun a _ => a = 109) h1 h2 → (∀ q : Nat, q < n → h2 109 q = (pml l π).getD q 0) → Wp X 5 105 50 [vr 89, vi least, vi T, vi Fd, z4, vi n] [] h2 (fun r h' => r = some (vi (B_chance b t l least)) ∧ Fr (fun a _ => a = 109 ∨ a = 110) h h') := by
      intro k
      induction k with
      | zero =>
        intro n h2 z4 hn F2 w
        have FF := F.tr (F2.mo fun a j c => (.inl c : a = 109 ∨ a = 110))
        have f16 : h2 89 16 = l.length := (FF _ _ (by omega)).trans e16
        have pl : (pml l π).length = l.length := by rw [pml_len, op.1]
        have hP2 : P h2 = P b := (FF.toP (fun a j c => by unfold scr; omega)).trans hP
        have v2 : VV b h2 := v.fr FF (by omega) (fun a j a1 a2 => by omega)
        have B2 : BB (mq5 b) (ob (mq5 b)) h2 := ⟨(FF _ _ (by omega)).trans B.1, (FF _ _ (by omega)).trans B.2.1, (FF _ _ (by omega)).trans B.2.2.1, (FF _ _ (by omega)).trans B.2.2.2⟩
        have m2 := m.fr FF (by omega) (fun a j a1 a2 => by omega)
        have lk : LKd b h2 (pml l π) := ⟨fun q hq => w q (by omega), by omega, fun x hx => by
          obtain ⟨q, q1, q2, _⟩ := mem_ex hx
          rw [pml_at (by rw [op.1]; omega)] at q2
          have := lr _ (op.2 q (by omega))
          omega⟩
        have pw := pc π
        have ep : pwn1 b t l least π = if least ≤ wcn b t (pml l π) l.length then 1 else 0 := rfl
        refine S105_89_50 _ _ _ _ _ ⟨fun _ => ⟨by unfold R32; omega, (K102 i hP2 v2 B2 hM lk m2 (by rw [f16, pl])).mono fun v h3 _ f => ?_⟩, fun c => absurd c (by omega)⟩
        obtain ⟨rfl, rfl⟩ := f
        rw [pl]
        have o3 : Or h3 π := fun q hq => (F2 _ _ (by omega)).trans (o q hq)
        have nx := fun z4 z5 => (K103 (X := X) (h := h3) (π := π) (by rw [f16, op.1]) (by rw [op.1]; exact h7) o3).mono (Q' := fun v h' => Wp X 5 105 107 [vr 89, vi least, vi ((T : Int) + 1), vi (Fd + pwn1 b t l least π), z4, z5] (psh v []) h' (fun r h' => r = some (vi (B_chance b t l least)) ∧ Fr (fun a _ => a = 109 ∨ a = 110) h h')) fun v h4 _ f => by
          obtain ⟨f, F4⟩ := f
          have F4' := FF.tr (F4.mo fun a j c => (.inr c : a = 109 ∨ a = 110))
          rcases f with ⟨f1, rfl⟩ | ⟨π', f1, rfl, f3⟩
          · exact S105_89_107 _ _ _ _ _ _ (H h4 _ 0 (.inl ⟨f1, rfl⟩) F4')
          · exact S105_89_107 _ _ _ _ _ _ (H h4 _ 1 (.inr ⟨π', f1, rfl, f3⟩) F4')
        refine S105_89_92 _ _ _ _ _ _ _ ⟨fun c => ⟨by unfold R32; omega, ?_⟩, fun c => ⟨by unfold R32; omega, ?_⟩⟩
        · rw [show Fd + 0 = Fd + pwn1 b t l least π by rw [ep, if_neg (by omega)]]; exact nx _ _
        · rw [show Fd + 1 = Fd + pwn1 b t l least π by rw [ep, if_pos c]]; exact nx _ _
      | succ k ih =>
        intro n h2 z4 hn F2 w
        have FF := F.tr (F2.mo fun a j c => (.inl c : a = 109 ∨ a = 110))
        have f16 : h2 89 16 = l.length := (FF _ _ (by omega)).trans e16
        have hop := op.2 n (by omega)
        have f110 : h2 110 (n : Int) = (π.getD n 0 : Nat) := (F2 _ _ (by omega)).trans (o n (by rw [op.1]; omega))
        have f102 : h2 102 (π.getD n 0 : Nat) = l.getD (π.getD n 0) 0 := (FF _ _ (by omega)).trans (ar _ hop)
        refine S105_89_50 _ _ _ _ _ ⟨fun c => absurd c (by omega), fun _ => ⟨⟨by omega, by omega⟩, by rw [f110]; omega, ?_⟩⟩
        rw [f110, f102]
        refine ih (n + 1) _ _ (by omega) (F2.up rfl) (fun q hq => ?_)
        rw [upd2_at]
        by_cases y : q = n
        · rw [if_pos (by omega), y, pml_at (by rw [op.1]; omega)]
        · rw [if_neg (by omega)]; exact w q (by omega)
    exact S105_89_42 _ _ _ _ _ ⟨fun c => absurd c (by decide), fun _ => L50 l.length 0 h1 _ (by omega) Fr.rf (fun q hq => absurd hq (Nat.not_lt_zero q))⟩
  -- one order after another
  have G : ∀ (r : List (List Nat)) (π : List Nat) (T : Nat) (Fd : Int) (h1 : HP) (z5 : aV), ckp π r = true → (∀ ρ, ρ ∈ π :: r → Opk l.length ρ) → Or h1 π → Fr (fun a _ => a = 109 ∨ a = 110) h h1 → T + 1 + r.length = fct l.length → 0 ≤ Fd → Fd ≤ T → Fd + ssum (pwn1 b t l least) (π :: r) = ssum (pwn1 b t l least) (PL l.length) → Wp X 5 105 42 [vr 89, vi least, vi T, vi Fd, vi 1, z5] [] h1 (fun r h' => r = some (vi (B_chance b t l least)) ∧ Fr (fun a _ => a = 109 ∨ a = 110) h h') := by
    intro r
    induction r with
    | nil =>
      intro π T Fd h1 z5 ck op o F hT hF hF2 hs
      have hT : T + 1 = fct l.length := hT
      have hs : Fd + (pwn1 b t l least π + 0) = ssum (pwn1 b t l least) (PL l.length) := hs
      have pw := pc π
      refine STEP π T Fd h1 z5 (op π (List.mem_cons_self ..)) o F (by omega) hF hF2 (fun h' z5 s0 c F' => ?_)
      rcases c with ⟨_, rfl⟩ | ⟨π', c, _⟩
      · have e1 : Fd + pwn1 b t l least π = ssum (pwn1 b t l least) (PL l.length) := by omega
        have e2 : ((T : Int) + 1) = (fct l.length : Int) := by omega
        have le : ssum (pwn1 b t l least) (PL l.length) ≤ (fct l.length : Int) := by omega
        have nn : 0 ≤ ssum (pwn1 b t l least) (PL l.length) := by omega
        have td : Int.tdiv (1000000 * ssum (pwn1 b t l least) (PL l.length)) (fct l.length : Int) = (1000000 * ssum (pwn1 b t l least) (PL l.length)) / (fct l.length : Int) := Int.tdiv_eq_ediv_of_nonneg (by omega)
        have q0 : 0 ≤ (1000000 * ssum (pwn1 b t l least) (PL l.length)) / (fct l.length : Int) := Int.ediv_nonneg (by omega) (by omega)
        have q1 : (1000000 * ssum (pwn1 b t l least) (PL l.length)) / (fct l.length : Int) ≤ 1000000 := Int.ediv_le_of_le_mul (by omega) (by omega)
        refine S105_89_42 _ _ _ _ _ ⟨fun _ => ?_, fun c => absurd rfl c⟩
        rw [e1, e2, td]
        exact ⟨by unfold R64; omega, by omega, by unfold R64; omega, by unfold R32; omega, by rw [hB], F'⟩
      · have ck : (match nxt π with | none => true | some _ => false) = true := ck
        rw [c] at ck
        exact absurd (show (false : Bool) = true from ck) (by decide)
    | cons ρ r ih =>
      intro π T Fd h1 z5 ck op o F hT hF hF2 hs
      have hT : T + 1 + (r.length + 1) = fct l.length := hT
      have hs : Fd + (pwn1 b t l least π + ssum (pwn1 b t l least) (ρ :: r)) = ssum (pwn1 b t l least) (PL l.length) := hs
      have pw := pc π
      have ck : cond (nxb π ρ) (ckp ρ r) false = true := ck
      refine STEP π T Fd h1 z5 (op π (List.mem_cons_self ..)) o F (by omega) hF hF2 (fun h' z5 s0 c F' => ?_)
      cases e : nxb π ρ with
      | false => rw [e] at ck; exact absurd (show (false : Bool) = true from ck) (by decide)
      | true =>
        rw [e] at ck
        have e : (match nxt π with | none => false | some r => leq r ρ) = true := e
        rcases c with ⟨c, _⟩ | ⟨π', c, rfl, o'⟩
        · rw [c] at e; exact absurd (show (false : Bool) = true from e) (by decide)
        · rw [c] at e
          have e := leq_eq (show leq π' ρ = true from e)
          rw [e] at o'
          exact ih ρ (T + 1) _ h' z5 ck (fun q hq => op q (List.mem_cons_of_mem _ hq)) o' F' (by omega) (by omega) (by omega) (by rw [Int.add_assoc]; exact hs)
  -- the first order
  have I : ∀ (k n : Nat) (h1 : HP), n + k = l.length → Fr (fun a _ => a = 109 ∨ a = 110) h h1 → (∀ q : Nat, q < n → h1 110 q = q) → Wp X 5 105 14 [vr 89, vi least, vi n, vu, vu, vu] [] h1 (fun r h' => r = some (vi (B_chance b t l least)) ∧ Fr (fun a _ => a = 109 ∨ a = 110) h h') := by
    intro k
    induction k with
    | zero =>
      intro n h1 hn F w
      have f16 : h1 89 16 = l.length := (F _ _ (by omega)).trans e16
      refine S105_89_14 _ _ ⟨fun _ => ?_, fun c => absurd c (by omega)⟩
      refine G r0 (List.range l.length) 0 0 h1 _ p2 (by rw [← p1]; exact p3) (fun k hk => ?_) F ?_ (Int.le_refl 0) (Int.le_refl 0) (by rw [← p1]; omega)
      · rw [List.length_range] at hk
        rw [w k (by omega), getD_ge _ _ (by rw [List.length_range]; exact hk), List.getElem_range]
      · rw [p1] at p4
        have : (List.range l.length :: r0).length = r0.length + 1 := rfl
        omega
    | succ k ih =>
      intro n h1 hn F w
      have f16 : h1 89 16 = l.length := (F _ _ (by omega)).trans e16
      refine S105_89_14 _ _ ⟨fun c => absurd c (by omega), fun _ => ⟨⟨by omega, by omega⟩, ?_⟩⟩
      refine ih (n + 1) _ (by omega) (F.up (.inr rfl)) (fun q hq => ?_)
      rw [upd2_at]
      by_cases y : q = n
      · rw [if_pos (by omega), y]
      · rw [if_neg (by omega)]; exact w q (by omega)
  exact I l.length 0 h (by omega) Fr.rf (fun q hq => absurd hq (Nat.not_lt_zero q))
end
