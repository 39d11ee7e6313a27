-- ===== orders by their beginnings =====
theorem zcu_cg {U : Int → Bool} {l1 l2 : List Int} {p : Nat} (H : ∀ q : Nat, q ≤ p → l1.getD q 0 = l2.getD q 0) : ∀ k : Nat, zcu U l1 p k = zcu U l2 p k
  | 0 => rfl
  | k + 1 => by
    show zcu U l1 p k + (if k ≤ p ∧ U (l1.getD (p - k) 0) = true then 1 else 0) = zcu U l2 p k + (if k ≤ p ∧ U (l2.getD (p - k) 0) = true then 1 else 0)
    rw [zcu_cg H k, H (p - k) (by omega)]
theorem wby_cg {h : HP} {t : Int} {l1 l2 : List Int} {p : Nat} (H : ∀ q : Nat, q ≤ p → l1.getD q 0 = l2.getD q 0) : wby h t l1 p = wby h t l2 p := by
  have hm : ∀ i, i ≤ p → msq (mnV (VL h)) l1 i = msq (mnV (VL h)) l2 i := fun i hi => by unfold msq; rw [H i hi]
  have e : RTi (Wt h t) (mnV (VL h)) (qsg (mq5 h)) l1 p = RTi (Wt h t) (mnV (VL h)) (qsg (mq5 h)) l2 p := by
    funext i
    unfold RTi RTa
    rw [zcu_cg H, zcu_cg H, swy_cg hm, owy_cg hm]
  unfold wby
  rw [e]
theorem wcn_cg {h : HP} {t : Int} {l1 l2 : List Int} : ∀ {p : Nat}, (∀ q : Nat, q < p → l1.getD q 0 = l2.getD q 0) → wcn h t l1 p = wcn h t l2 p
  | 0, _ => rfl
  | p + 1, H => by
    show wcn h t l1 p + (if wby h t l1 p ≠ 0 then 1 else 0) = wcn h t l2 p + (if wby h t l2 p ≠ 0 then 1 else 0)
    rw [wcn_cg (p := p) (fun q hq => H q (by omega)), wby_cg (p := p) (fun q hq => H q (by omega))]
theorem wcn_ge {h : HP} {t : Int} {l : List Int} {p : Nat} : ∀ f : Nat, wcn h t l p ≤ wcn h t l (p + f) ∧ wcn h t l (p + f) ≤ wcn h t l p + f
  | 0 => ⟨Int.le_refl _, by show wcn h t l p ≤ wcn h t l p + 0; omega⟩
  | f + 1 => by
    have ih := wcn_ge (h := h) (t := t) (l := l) (p := p) f
    have e : wcn h t l (p + (f + 1)) = wcn h t l (p + f) + (if wby h t l (p + f) ≠ 0 then 1 else 0) := rfl
    rw [e]
    split <;> omega
theorem apx_mem {F : Nat → List (List Nat)} {π : List Nat} : ∀ {n : Nat} {acc : List (List Nat)}, π ∈ apx F n acc → (∃ i, i < n ∧ π ∈ F i) ∨ π ∈ acc
  | 0, _, m => .inr m
  | n + 1, acc, m => by
    rcases apx_mem (n := n) (acc := F n ++ acc) m with ⟨i, hi, hm⟩ | m
    · exact .inl ⟨i, by omega, hm⟩
    · rcases List.mem_append.mp m with m | m
      · exact .inl ⟨n, by omega, m⟩
      · exact .inr m
theorem pext_pre {n : Nat} : ∀ {f : Nat} {pre π : List Nat}, π ∈ pext n f pre → ∃ s, π = pre ++ s ∧ s.length = f
  | 0, pre, π, m => ⟨[], by rw [List.append_nil]; exact List.mem_singleton.mp m, rfl⟩
  | f + 1, pre, π, m => by
    rcases apx_mem (F := fun i => cond (hsN i pre) [] (pext n f (pre ++ [i]))) (n := n) (acc := []) m with ⟨i, hi, hm⟩ | m
    · cases e : hsN i pre with
      | true =>
        have hm : π ∈ cond (hsN i pre) [] (pext n f (pre ++ [i])) := hm
        rw [e] at hm; exact absurd (show π ∈ ([] : List (List Nat)) from hm) (List.not_mem_nil)
      | false =>
        have hm : π ∈ cond (hsN i pre) [] (pext n f (pre ++ [i])) := hm
        rw [e] at hm
        obtain ⟨s, h1, h2⟩ := pext_pre (f := f) (pre := pre ++ [i]) (π := π) hm
        exact ⟨i :: s, by rw [h1, List.append_assoc]; rfl, by rw [List.length_cons, h2]⟩
    · exact absurd m (List.not_mem_nil)
theorem ssum_app {φ : List Nat → Int} : ∀ {a b : List (List Nat)}, ssum φ (a ++ b) = ssum φ a + ssum φ b
  | [], b => by show ssum φ b = 0 + ssum φ b; omega
  | x :: a, b => by
    show φ x + ssum φ (a ++ b) = φ x + ssum φ a + ssum φ b
    rw [ssum_app (a := a)]; omega
theorem ssum_cg {φ ψ : List Nat → Int} : ∀ {a : List (List Nat)}, (∀ π, π ∈ a → φ π = ψ π) → ssum φ a = ssum ψ a
  | [], _ => rfl
  | x :: a, H => by
    show φ x + ssum φ a = ψ x + ssum ψ a
    rw [H x (List.mem_cons_self ..), ssum_cg (fun π m => H π (List.mem_cons_of_mem _ m))]
theorem ssum_1 : ∀ {a : List (List Nat)}, ssum (fun _ => 1) a = (a.length : Int)
  | [] => rfl
  | x :: a => by
    show 1 + ssum (fun _ => 1) a = ((a.length + 1 : Nat) : Int)
    rw [ssum_1 (a := a)]; omega
theorem ssum_0 : ∀ {a : List (List Nat)}, ssum (fun _ => 0) a = 0
  | [] => rfl
  | x :: a => by
    show 0 + ssum (fun _ => 0) a = 0
    rw [ssum_0 (a := a)]; rfl
/-- a sum over places -/
def isu (F : Nat → Int) : Nat → Int
  | 0 => 0
  | n + 1 => isu F n + F n
theorem apx_sum {φ : List Nat → Int} {F : Nat → List (List Nat)} : ∀ {n : Nat} {acc : List (List Nat)}, ssum φ (apx F n acc) = isu (fun i => ssum φ (F i)) n + ssum φ acc
  | 0, acc => by show ssum φ acc = 0 + ssum φ acc; omega
  | n + 1, acc => by
    show ssum φ (apx F n (F n ++ acc)) = isu (fun i => ssum φ (F i)) n + ssum φ (F n) + ssum φ acc
    rw [apx_sum (n := n), ssum_app]; omega
/-- how many orders begin so -/
def fre (n : Nat) (pre : List Nat) : Nat → Nat
  | 0 => 0
  | i + 1 => cond (hsN i pre) (fre n pre i) (fre n pre i + 1)
def ckl (n : Nat) : Nat → List Nat → Bool
  | 0, _ => true
  | f + 1, pre => cond (Nat.beq (fre n pre n) (f + 1)) ((List.range n).all fun i => cond (hsN i pre) true (ckl n f (pre ++ [i]))) false
theorem ckl_ok : ((List.range 8).all fun n => ckl n n []) = true := by decide +kernel
theorem pext_len {n : Nat} : ∀ {f : Nat} {pre : List Nat}, ckl n f pre = true → (pext n f pre).length = fct f
  | 0, _, _ => rfl
  | f + 1, pre, h => by
    have h : cond (Nat.beq (fre n pre n) (f + 1)) ((List.range n).all fun i => cond (hsN i pre) true (ckl n f (pre ++ [i]))) false = true := h
    cases e : Nat.beq (fre n pre n) (f + 1) with
    | false => rw [e] at h; exact absurd (show (false : Bool) = true from h) (by decide)
    | true =>
      rw [e] at h
      have h : ((List.range n).all fun i => cond (hsN i pre) true (ckl n f (pre ++ [i]))) = true := h
      have e := Nat.eq_of_beq_eq_true e
      have G : ∀ i : Nat, i ≤ n → isu (fun i => ssum (fun _ => 1) (cond (hsN i pre) [] (pext n f (pre ++ [i])))) i = (fre n pre i * fct f : Nat) := by
        intro i
        induction i with
        | zero => intro _; show (0 : Int) = ((0 * fct f : Nat) : Int); rw [Nat.zero_mul]; rfl
        | succ i ih =>
          intro hi
          have ih := ih (by omega)
          have a := List.all_eq_true.mp h i (List.mem_range.mpr (by omega))
          show isu (fun i => ssum (fun _ => 1) (cond (hsN i pre) [] (pext n f (pre ++ [i])))) i + ssum (fun _ => 1) (cond (hsN i pre) [] (pext n f (pre ++ [i]))) = ((cond (hsN i pre) (fre n pre i) (fre n pre i + 1) * fct f : Nat) : Int)
          rw [ih]
          cases c : hsN i pre with
          | true => show ((fre n pre i * fct f : Nat) : Int) + 0 = ((fre n pre i * fct f : Nat) : Int); omega
          | false =>
            rw [c] at a
            have a : ckl n f (pre ++ [i]) = true := a
            show ((fre n pre i * fct f : Nat) : Int) + ssum (fun _ => 1) (pext n f (pre ++ [i])) = (((fre n pre i + 1) * fct f : Nat) : Int)
            rw [ssum_1, pext_len a, Nat.add_mul, Nat.one_mul, Int.natCast_add]
      have L : ((pext n (f + 1) pre).length : Int) = ((f + 1) * fct f : Nat) := by
        rw [← ssum_1]
        show ssum (fun _ => 1) (apx (fun i => cond (hsN i pre) [] (pext n f (pre ++ [i]))) n []) = _
        rw [apx_sum, G n (Nat.le_refl n), e]
        show ((((f + 1) * fct f : Nat) : Int)) + 0 = _
        omega
      show (pext n (f + 1) pre).length = (f + 1) * fct f
      omega
