-- ===== frames; what both sides speak of, as functions of what was told =====
def Fr (C : Nat → Int → Prop) (h h' : HP) : Prop := ∀ a j, ¬ C a j → h' a j = h a j
theorem Fr.rf {C : Nat → Int → Prop} {h : HP} : Fr C h h := fun _ _ _ => rfl
theorem Fr.tr {C : Nat → Int → Prop} {h1 h2 h3 : HP} (F : Fr C h1 h2) (G : Fr C h2 h3) : Fr C h1 h3 := fun a j n => (G a j n).trans (F a j n)
theorem Fr.mo {C D : Nat → Int → Prop} {h h' : HP} (F : Fr C h h') (hC : ∀ a j, C a j → D a j) : Fr D h h' := fun a j n => F a j (fun c => n (hC a j c))
theorem upd2_of {h : HP} {a b : Nat} {i j v : Int} (n : ¬ (b = a ∧ j = i)) : upd2 h a i v b j = h b j := if_neg n
theorem upd2_at {h : HP} {a : Nat} {i j v : Int} : upd2 h a i v a j = if j = i then v else h a j := by
  unfold upd2
  by_cases e : j = i
  · rw [if_pos ⟨rfl, e⟩, if_pos e]
  · rw [if_neg (fun q => e q.2), if_neg e]
theorem Fr.up {C : Nat → Int → Prop} {h h' : HP} {a : Nat} {i v : Int} (F : Fr C h h') (c : C a i) : Fr C h (upd2 h' a i v) := fun b j n => (upd2_of (fun e => n (by rw [e.1, e.2]; exact c))).trans (F b j n)
theorem Fr.row {C : Nat → Int → Prop} {h h' : HP} (F : Fr C h h') {a : Nat} (n : ∀ j, ¬ C a j) : h' a = h a := funext fun j => F a j (n j)
/-- a finite sum -/
def su (f : Int → Int) : Nat → Int
  | 0 => 0
  | n + 1 => su f n + f n
theorem su_cg {f g : Int → Int} : ∀ {n : Nat}, (∀ i : Nat, i < n → f i = g i) → su f n = su g n
  | 0, _ => rfl
  | n + 1, H => by
    show su f n + f n = su g n + g n
    rw [su_cg (n := n) (fun i hi => H i (by omega)), H n (by omega)]
theorem su_ext {f : Int → Int} {n : Nat} : ∀ {m : Nat}, n ≤ m → (∀ i : Nat, n ≤ i → i < m → f i = 0) → su f m = su f n
  | 0, e, _ => by rw [show n = 0 by omega]
  | m + 1, e, H => by
    by_cases q : n = m + 1
    · rw [q]
    · show su f m + f m = _
      rw [H m (by omega) (by omega), su_ext (m := m) (by omega) (fun i a b => H i a (by omega))]
      omega
theorem su_nn {f : Int → Int} {n : Nat} (H : ∀ i : Nat, i < n → 0 ≤ f i) : 0 ≤ su f n := by
  induction n with
  | zero => exact Int.le_refl _
  | succ n ih =>
    have := ih (fun i hi => H i (by omega))
    have := H n (by omega)
    show 0 ≤ su f n + f n
    omega
theorem su_le {f : Int → Int} {c : Int} {n : Nat} (H : ∀ i : Nat, i < n → f i ≤ c) : su f n ≤ c * n := by
  induction n with
  | zero => show (0 : Int) ≤ c * 0; omega
  | succ n ih =>
    have := ih (fun i hi => H i (by omega))
    have := H n (by omega)
    show su f n + f n ≤ c * ((n + 1 : Nat) : Int)
    rw [show c * ((n + 1 : Nat) : Int) = c * n + c by rw [Int.natCast_succ, Int.mul_add, Int.mul_one]]
    omega
theorem su_mono {f g : Int → Int} {n : Nat} (H : ∀ i : Nat, i < n → f i ≤ g i) : su f n ≤ su g n := by
  induction n with
  | zero => exact Int.le_refl _
  | succ n ih =>
    have := ih (fun i hi => H i (by omega))
    have := H n (by omega)
    show su f n + f n ≤ su g n + g n
    omega
theorem su_sub {f g : Int → Int} {n : Nat} : su (fun i => f i - g i) n = su f n - su g n := by
  induction n with
  | zero => rfl
  | succ n ih =>
    show su _ n + (f n - g n) = su f n + f n - (su g n + g n)
    rw [ih]; omega
/-- the value that is known of piece k: the latest telling of it up to the time -/
def vlu (tp tv tt : Int → Int) (as : Int) : Nat → Int → Int
  | 0, _ => -1
  | n + 1, k => if tp n = k ∧ tt n ≤ as then tv n else vlu tp tv tt as n k
def cnp (V : Int → Int) (g : Int) : Nat → Int
  | 0 => 0
  | p + 1 => cnp V g p + (if V (5 * g + p) = -1 then 0 else 1)
def smp (V : Int → Int) (g : Int) : Nat → Int
  | 0 => 0
  | p + 1 => smp V g p + (if V (5 * g + p) = -1 then 0 else V (5 * g + p))
def lsp (V : Int → Int) (g : Int) : Nat → Int
  | 0 => 1000
  | p + 1 => if V (5 * g + p) = -1 then lsp V g p else if V (5 * g + p) < lsp V g p then V (5 * g + p) else lsp V g p
def grp (V : Int → Int) (g : Int) : Nat → Int
  | 0 => 0
  | p + 1 => if V (5 * g + p) = -1 then grp V g p else if grp V g p < V (5 * g + p) then V (5 * g + p) else grp V g p
def Vok (V : Int → Int) : Prop := ∀ k, -1 ≤ V k ∧ V k ≤ 999
theorem vlu_ok {tp tv tt : Int → Int} {as : Int} {n : Nat} (H : ∀ i : Nat, i < n → -1 ≤ tv i ∧ tv i ≤ 999) : Vok (vlu tp tv tt as n) := by
  induction n with
  | zero => intro k; show -1 ≤ (-1 : Int) ∧ (-1 : Int) ≤ 999; omega
  | succ n ih =>
    intro k
    unfold vlu
    split
    · exact H n (by omega)
    · exact ih (fun i hi => H i (by omega)) k
theorem vlu_stop {tp tv tt : Int → Int} {as : Int} {n : Nat} {k : Int} : ∀ {m : Nat}, n ≤ m → (∀ i : Nat, n ≤ i → i < m → as < tt i) → vlu tp tv tt as m k = vlu tp tv tt as n k
  | 0, e, _ => by rw [show n = 0 by omega]
  | m + 1, e, H => by
    by_cases q : n = m + 1
    · rw [q]
    · show (if tp m = k ∧ tt m ≤ as then tv m else vlu tp tv tt as m k) = _
      rw [if_neg (fun c => by have := H m (by omega) (by omega); omega), vlu_stop (m := m) (by omega) (fun i a b => H i a (by omega))]
theorem vlu_out {tp tv tt : Int → Int} {as k : Int} {n : Nat} (H : ∀ i : Nat, i < n → tp i ≠ k) : vlu tp tv tt as n k = -1 := by
  induction n with
  | zero => rfl
  | succ n ih =>
    unfold vlu
    rw [if_neg (fun c => H n (by omega) c.1)]
    exact ih (fun i hi => H i (by omega))
theorem cnp_r {V : Int → Int} {g : Int} : ∀ p, 0 ≤ cnp V g p ∧ cnp V g p ≤ p
  | 0 => by show 0 ≤ (0 : Int) ∧ (0 : Int) ≤ ((0 : Nat) : Int); omega
  | p + 1 => by
    have := cnp_r (V := V) (g := g) p
    unfold cnp
    split <;> omega
theorem smp_r {V : Int → Int} (hV : Vok V) {g : Int} : ∀ p, 0 ≤ smp V g p ∧ smp V g p ≤ 999 * cnp V g p
  | 0 => by show 0 ≤ (0 : Int) ∧ (0 : Int) ≤ 999 * 0; omega
  | p + 1 => by
    have := smp_r hV (g := g) p
    have := hV (5 * g + p)
    unfold smp cnp
    split <;> omega
theorem lsp_r {V : Int → Int} (hV : Vok V) {g : Int} : ∀ p, 0 ≤ lsp V g p ∧ lsp V g p ≤ 1000 ∧ 0 ≤ grp V g p ∧ grp V g p ≤ 999 ∧ (0 < cnp V g p → lsp V g p ≤ grp V g p)
  | 0 => by show 0 ≤ (1000 : Int) ∧ (1000 : Int) ≤ 1000 ∧ 0 ≤ (0 : Int) ∧ (0 : Int) ≤ 999 ∧ (0 < (0 : Int) → _); omega
  | p + 1 => by
    have := lsp_r hV (g := g) p
    have := hV (5 * g + p)
    have := cnp_r (V := V) (g := g) p
    unfold lsp grp cnp
    repeat' split
    all_goals omega
def mnV (V : Int → Int) (g : Int) : Int := if cnp V g 5 = 0 then 0 else Int.tdiv (smp V g 5 * 60) (cnp V g 5)
def spV (V : Int → Int) (g : Int) : Int := if cnp V g 5 = 0 then 0 else grp V g 5 - lsp V g 5
theorem tdiv60 {s c : Int} (hc : 1 ≤ c ∧ c ≤ 5) : Int.tdiv (s * 60) c = s * Int.tdiv 60 c := by
  rcases (show c = 1 ∨ c = 2 ∨ c = 3 ∨ c = 4 ∨ c = 5 by omega) with rfl | rfl | rfl | rfl | rfl
  · rw [Int.tdiv_one, Int.tdiv_one]
  · rw [show s * 60 = s * 30 * 2 by omega, Int.mul_tdiv_cancel _ (by decide), show Int.tdiv 60 2 = 30 from rfl]
  · rw [show s * 60 = s * 20 * 3 by omega, Int.mul_tdiv_cancel _ (by decide), show Int.tdiv 60 3 = 20 from rfl]
  · rw [show s * 60 = s * 15 * 4 by omega, Int.mul_tdiv_cancel _ (by decide), show Int.tdiv 60 4 = 15 from rfl]
  · rw [show s * 60 = s * 12 * 5 by omega, Int.mul_tdiv_cancel _ (by decide), show Int.tdiv 60 5 = 12 from rfl]
theorem mean_r {s c : Int} (hc : 1 ≤ c ∧ c ≤ 5) (h0 : 0 ≤ s) (h1 : s ≤ 999 * c) : 0 ≤ Int.tdiv (s * 60) c ∧ Int.tdiv (s * 60) c ≤ 59940 := by
  rw [tdiv60 hc]
  rcases (show c = 1 ∨ c = 2 ∨ c = 3 ∨ c = 4 ∨ c = 5 by omega) with rfl | rfl | rfl | rfl | rfl
  · rw [show Int.tdiv 60 1 = 60 from rfl]; omega
  · rw [show Int.tdiv 60 2 = 30 from rfl]; omega
  · rw [show Int.tdiv 60 3 = 20 from rfl]; omega
  · rw [show Int.tdiv 60 4 = 15 from rfl]; omega
  · rw [show Int.tdiv 60 5 = 12 from rfl]; omega
theorem mnV_r {V : Int → Int} (hV : Vok V) (g : Int) : 0 ≤ mnV V g ∧ mnV V g ≤ 59940 := by
  unfold mnV
  split
  · omega
  · have := cnp_r (V := V) (g := g) 5
    have := smp_r hV (g := g) 5
    exact mean_r (by omega) (by omega) (by omega)
theorem spV_r {V : Int → Int} (hV : Vok V) (g : Int) : 0 ≤ spV V g ∧ spV V g ≤ 999 := by
  unfold spV
  split
  · omega
  · have := cnp_r (V := V) (g := g) 5
    have := lsp_r hV (g := g) 5
    omega
/-- groups that are not blank, in their order -/
def rwl (V : Int → Int) : Nat → List Int
  | 0 => []
  | n + 1 => if cnp V n 5 = 0 then rwl V n else rwl V n ++ [(n : Int)]
theorem rwl_len {V : Int → Int} : ∀ n : Nat, (rwl V n).length ≤ n
  | 0 => Nat.le_refl _
  | n + 1 => by
    have := rwl_len (V := V) n
    unfold rwl
    split
    · omega
    · rw [List.length_append]; show _ + 1 ≤ _; omega
theorem rwl_mem {V : Int → Int} {x : Int} : ∀ {n : Nat}, x ∈ rwl V n ↔ 0 ≤ x ∧ x < n ∧ cnp V x 5 ≠ 0
  | 0 => by
    show x ∈ [] ↔ _
    constructor
    · intro q; cases q
    · intro q; have := q.2.1; omega
  | n + 1 => by
    have ih := rwl_mem (V := V) (x := x) (n := n)
    unfold rwl
    split
    · rw [ih]
      constructor
      · intro q; exact ⟨q.1, by have := q.2.1; omega, q.2.2⟩
      · intro q
        refine ⟨q.1, ?_, q.2.2⟩
        by_cases e : x = n
        · rw [e] at q; exact absurd ‹_› q.2.2
        · have := q.2.1; omega
    · rw [List.mem_append, ih, List.mem_singleton]
      constructor
      · rintro (q | q)
        · exact ⟨q.1, by have := q.2.1; omega, q.2.2⟩
        · rw [q]; exact ⟨by omega, by omega, ‹_›⟩
      · intro q
        by_cases e : x = n
        · exact .inr e
        · exact .inl ⟨q.1, by have := q.2.1; omega, q.2.2⟩
/-- a row of cells holds a list -/
def Ar (f : Int → Int) (l : List Int) : Prop := ∀ i : Nat, i < l.length → f i = l.getD i 0
theorem Ar.nil {f : Int → Int} : Ar f [] := fun i hi => absurd hi (Nat.not_lt_zero i)
theorem getD_app_lt {l m : List Int} {i : Nat} (hi : i < l.length) : (l ++ m).getD i 0 = l.getD i 0 := by
  rw [List.getD_eq_getElem?_getD, List.getD_eq_getElem?_getD, List.getElem?_append_left hi]
theorem getD_app_eq {l : List Int} {x : Int} : (l ++ [x]).getD l.length 0 = x := by
  rw [List.getD_eq_getElem?_getD, List.getElem?_append_right (Nat.le_refl _), Nat.sub_self]
  rfl
theorem Ar.snoc {f f' : Int → Int} {l : List Int} {x : Int} (A : Ar f l) (h1 : ∀ j : Int, j ≠ l.length → f' j = f j) (h2 : f' l.length = x) : Ar f' (l ++ [x]) := by
  intro i hi
  rw [List.length_append] at hi
  have hi : i < l.length + 1 := hi
  by_cases e : i = l.length
  · rw [e, getD_app_eq]; exact h2
  · rw [getD_app_lt (by omega), h1 i (by omega)]; exact A i (by omega)
theorem Ar.cg {f f' : Int → Int} {l : List Int} (A : Ar f l) (e : f' = f) : Ar f' l := by rw [e]; exact A
-- what calls that only ask may change: it is no part of what stays
def scr (a : Nat) (j : Int) : Prop := (61 ≤ a ∧ a ≤ 76 ∧ a ≠ 70) ∨ a = 93 ∨ (98 ≤ a ∧ a ≤ 102) ∨ (105 ≤ a ∧ a ≤ 110) ∨ (112 ≤ a ∧ a ≤ 117) ∨ (a = 89 ∧ 16 ≤ j ∧ j ≤ 24 ∧ j ≠ 21 ∧ j ≠ 22)
def scb (a : Nat) (j : Int) : Bool := cond (Nat.ble 61 a && Nat.ble a 76 && !(Nat.beq a 70)) true (cond (Nat.beq a 93) true (cond (Nat.ble 98 a && Nat.ble a 102) true (cond (Nat.ble 105 a && Nat.ble a 110) true (cond (Nat.ble 112 a && Nat.ble a 117) true (cond (Nat.beq a 89) (decide (16 ≤ j) && decide (j ≤ 24) && decide (j ≠ 21) && decide (j ≠ 22)) false)))))
theorem scb_of {a : Nat} {j : Int} (h : scb a j = false) : ¬ scr a j := by
  intro c
  unfold scr at c
  unfold scb at h
  simp only [Bool.cond_eq_ite, Nat.ble_eq, Nat.beq_eq, Bool.and_eq_true, Bool.not_eq_true', Bool.ite_eq_true_distrib, decide_eq_true_eq] at h
  repeat' split at h
  all_goals first
    | (cases h; done)
    | (simp at h; omega)
    | (simp_all; done)
    | (simp_all; omega)
def P (h : HP) : HP := fun a j => cond (scb a j) 0 (h a j)
theorem Fr.toP {C : Nat → Int → Prop} {h h' : HP} (F : Fr C h h') (hC : ∀ a j, C a j → scr a j) : P h' = P h := by
  funext a j
  unfold P
  cases e : scb a j
  · exact F a j (fun c => scb_of e (hC a j c))
  · rfl
theorem P_up {h : HP} {a : Nat} {i v : Int} (c : scb a i = true) : P (upd2 h a i v) = P h := by
  funext b j
  unfold P
  cases e : scb b j
  · show upd2 h a i v b j = h b j
    exact upd2_of (fun q => by rw [q.1, q.2, c] at e; cases e)
  · rfl
def VL (b : HP) : Int → Int := vlu (b 94) (b 95) (b 96) (b 97 3) (b 89 6).toNat
def gn (b : HP) : Nat := (b 89 5).toNat
/-- tellings are well -/
def Tok (b : HP) : Prop := (0 ≤ b 89 5 ∧ b 89 5 ≤ 20 ∧ 0 ≤ b 89 6 ∧ b 89 6 ≤ 100) ∧ ∀ i : Nat, (i : Int) < b 89 6 → 0 ≤ b 94 i ∧ b 94 i < 5 * b 89 5 ∧ -1 ≤ b 95 i ∧ b 95 i ≤ 999
theorem VL_ok {b : HP} (T : Tok b) : Vok (VL b) := vlu_ok fun i hi => by
  have := T.2 i (by omega)
  omega
theorem VL_out {b : HP} (T : Tok b) {k : Int} (hk : 5 * b 89 5 ≤ k) : VL b k = -1 := vlu_out fun i hi => by
  have := T.2 i (by omega)
  omega
/-- what the reference holds of values behind findValues() -/
def VV (b h : HP) : Prop := (∀ k : Int, 0 ≤ k → k < 100 → h 98 k = VL b k) ∧ (∀ g : Int, 0 ≤ g → g < b 89 5 → h 99 g = mnV (VL b) g ∧ h 100 g = spV (VL b) g ∧ h 101 g = (if cnp (VL b) g 5 = 0 then 1 else 0)) ∧ Ar (h 102) (rwl (VL b) (gn b)) ∧ h 89 16 = (rwl (VL b) (gn b)).length
def fVv (a : Nat) (j : Int) : Prop := (98 ≤ a ∧ a ≤ 102) ∨ (a = 89 ∧ j = 16)
