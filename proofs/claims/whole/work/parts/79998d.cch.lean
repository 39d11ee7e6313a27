-- ===== the class's chance =====
theorem hsN_app {k i : Nat} : ∀ {pre : List Nat}, hsN k (pre ++ [i]) = (hsN k pre || Nat.beq i k)
  | [] => by show cond (Nat.beq i k) true false = (false || Nat.beq i k); cases Nat.beq i k <;> rfl
  | a :: pre => by
    show cond (Nat.beq a k) true (hsN k (pre ++ [i])) = (cond (Nat.beq a k) true (hsN k pre) || Nat.beq i k)
    rw [hsN_app (pre := pre)]
    cases Nat.beq a k <;> rfl
def MK (pre : List Nat) (M : Nat) : Prop := M < 2 ^ 20 ∧ ∀ k : Nat, k < 20 → M.testBit k = hsN k pre
theorem MK.app {pre : List Nat} {M i : Nat} (m : MK pre M) (hi : i < 20) : MK (pre ++ [i]) (M ||| 2 ^ i) := by
  refine ⟨Nat.or_lt_two_pow m.1 (Nat.pow_lt_pow_right (by decide) hi), fun k hk => ?_⟩
  rw [Nat.testBit_or, m.2 k hk, hsN_app, Nat.testBit_two_pow]
  congr 1
  by_cases e : i = k
  · rw [e]; simp
  · have : Nat.beq i k = false := by
      cases c : Nat.beq i k with
      | false => rfl
      | true => exact absurd (Nat.eq_of_beq_eq_true c) e
    rw [this]; simp [e]
theorem row_take {h : HP} {l : List Int} {m s : Int → Int} (r : RowIs 62 h l m s) {k : Nat} (hk : k ≤ l.length) : ∃ l2 : List Int, l2.length = k ∧ (∀ q : Nat, q < k → l2.getD q 0 = l.getD q 0) ∧ RowIs 62 (upd2 h 62 6 k) l2 m s := by
  have g : ∀ (l : List Int) (k q : Nat), q < k → (l.take k).getD q 0 = l.getD q 0 := by
    intro l
    induction l with
    | nil => intro k q _; rw [List.take_nil]
    | cons x l ih =>
      intro k q hq
      cases k with
      | zero => omega
      | succ k =>
        cases q with
        | zero => rfl
        | succ q => exact ih k q (by omega)
  have g := g l k
  have len : (l.take k).length = k := by rw [List.length_take]; omega
  refine ⟨l.take k, len, g, by rw [upd2_s, len], by rw [len]; have := r.2.1; omega, fun i hi => ?_⟩
  rw [len] at hi
  have ri := r.2.2 i (by omega)
  have hm : ∀ q, q ≤ i → msq m l q = msq m (l.take k) q := fun q hq => by unfold msq; rw [g q (by omega)]
  rw [g i hi, ← wy_cg hm, ← swy_cg hm, ← owy_cg hm]
  rw [upd2_ne (a := 62) (b := 62 + 1) (by decide), upd2_ne (a := 62) (b := 62 + 2) (by decide), upd2_ne (a := 62) (b := 62 + 3) (by decide), upd2_ne (a := 62) (b := 62 + 4) (by decide), upd2_ne (a := 62) (b := 62 + 5) (by decide), upd2_ne (a := 62) (b := 62 + 6) (by decide)]
  exact ri
theorem app_at {l : List Int} {g : Int} : ∀ {q : Nat}, (l ++ [g]).getD q 0 = if q < l.length then l.getD q 0 else if q = l.length then g else 0 := by
  induction l with
  | nil => intro q; cases q <;> rfl
  | cons x l ih =>
    intro q
    cases q with
    | zero => rfl
    | succ q =>
      show (l ++ [g]).getD q 0 = if q + 1 < l.length + 1 then l.getD q 0 else if q + 1 = l.length + 1 then g else 0
      rw [ih]
      by_cases c : q < l.length
      · rw [if_pos c, if_pos (show q + 1 < l.length + 1 by omega)]
      · rw [if_neg c, if_neg (show ¬ q + 1 < l.length + 1 by omega)]
        by_cases d : q = l.length
        · rw [if_pos d, if_pos (show q + 1 = l.length + 1 by omega)]
        · rw [if_neg d, if_neg (show ¬ q + 1 = l.length + 1 by omega)]
theorem pml_app {l : List Int} {a b : List Nat} : pml l (a ++ b) = pml l a ++ pml l b := List.map_append
theorem pml_pre {l : List Int} {a b : List Nat} {q : Nat} (hq : q < a.length) : (pml l (a ++ b)).getD q 0 = (pml l a).getD q 0 := by
  induction a generalizing q with
  | nil => exact absurd hq (Nat.not_lt_zero _)
  | cons x a ih =>
    cases q with
    | zero => rfl
    | succ q => exact ih (Nat.lt_of_succ_lt_succ hq)
theorem pw_one {h : HP} {t least : Int} {l : List Int} {f : Nat} {pre : List Nat} (hn : pre.length + f = l.length) (c : least ≤ wcn h t (pml l pre) pre.length) : ∀ π, π ∈ pext l.length f pre → pwn1 h t l least π = 1 := fun π m => by
  obtain ⟨s, e, hs⟩ := pext_pre m
  have g := wcn_ge (h := h) (t := t) (l := pml l π) (p := pre.length) f
  rw [hn] at g
  have e2 : wcn h t (pml l π) pre.length = wcn h t (pml l pre) pre.length := wcn_cg fun q hq => by rw [e, pml_pre hq]
  unfold pwn1
  rw [if_pos (by omega)]
theorem pw_zero {h : HP} {t least : Int} {l : List Int} {f : Nat} {pre : List Nat} (hn : pre.length + f = l.length) (c : wcn h t (pml l pre) pre.length + f < least) : ∀ π, π ∈ pext l.length f pre → pwn1 h t l least π = 0 := fun π m => by
  obtain ⟨s, e, hs⟩ := pext_pre m
  have g := wcn_ge (h := h) (t := t) (l := pml l π) (p := pre.length) f
  rw [hn] at g
  have e2 : wcn h t (pml l π) pre.length = wcn h t (pml l pre) pre.length := wcn_cg fun q hq => by rw [e, pml_pre hq]
  unfold pwn1
  rw [if_neg (by omega)]
theorem ssum_r {φ : List Nat → Int} (hp : ∀ π, 0 ≤ φ π ∧ φ π ≤ 1) : ∀ {a : List (List Nat)}, 0 ≤ ssum φ a ∧ ssum φ a ≤ a.length
  | [] => ⟨Int.le_refl 0, Int.le_refl 0⟩
  | x :: a => by
    have := ssum_r hp (a := a)
    have := hp x
    show 0 ≤ φ x + ssum φ a ∧ φ x + ssum φ a ≤ ((a.length + 1 : Nat) : Int)
    omega
theorem isu_mono {F : Nat → Int} (hF : ∀ i, 0 ≤ F i) {q : Nat} : ∀ k : Nat, 0 ≤ isu F q ∧ isu F q ≤ isu F (q + k)
  | 0 => by
    refine ⟨?_, Int.le_refl _⟩
    induction q with
    | zero => exact Int.le_refl 0
    | succ q ih => have := hF q; show 0 ≤ isu F q + F q; omega
  | k + 1 => by
    have ih := isu_mono hF (q := q) k
    have := hF (q + k)
    refine ⟨ih.1, ?_⟩
    show isu F q ≤ isu F (q + k) + F (q + k)
    omega
def fTr (a : Nat) (j : Int) : Prop := (a = 61 ∧ j = 2) ∨ fRow 62 a j
def TR (h h1 : HP) (l : List Int) (pre : List Nat) (least : Int) : Prop := Fr fTr h h1 ∧ h1 61 2 = least ∧ ∃ l' : List Int, RowIs 62 h1 l' (mnV (VL h)) (qsg (mq5 h)) ∧ pre.length ≤ l'.length ∧ ∀ q : Nat, q < pre.length → l'.getD q 0 = (pml l pre).getD q 0
theorem TR.less {h h1 : HP} {l : List Int} {pre s : List Nat} {least : Int} (t : TR h h1 l (pre ++ s) least) : TR h h1 l pre least := by
  obtain ⟨F, e, l', r, hl, hq⟩ := t
  rw [List.length_append] at hl
  refine ⟨F, e, l', r, by omega, fun q hq2 => ?_⟩
  rw [hq q (by rw [List.length_append]; omega), pml_pre hq2]
section
variable {X : Nat × (Int → Int)}
theorem K185_45 {h : HP} (i : Inv h) {least : Int} {l : List Int} (el : l = rwl (VL h) (gn h)) (hf : B_fault h 0 = -1) (h7 : l.length ≤ 7) (hle : 0 ≤ least ∧ least ≤ 20) : ∀ (f : Nat) (pre : List Nat) (M : Nat) (h1 : HP), pre.length + f = l.length → ckl l.length f pre = true → MK pre M → TR h h1 l pre least → Wp X (4 + Int.toNat (8 - (pre.length : Int))) 185 0 [vr 61, vr 45, vi pre.length, vi M, vi (wcn h 0 (pml l pre) pre.length), vu, vu, vu, vu] [] h1 (fun v h2 => v = some (vi (ssum (pwn1 h 0 l least) (pext l.length f pre))) ∧ TR h h2 l pre least) := by
  have r37 := i.row
  rw [← el] at r37
  have td : I_txt 45 0 h := by have x := i.1.2.2.2.1; first | exact x.2.1 | exact x.2.2
  have ff := td.2.2.2 hf
  have pw : ∀ π, 0 ≤ pwn1 h 0 l least π ∧ pwn1 h 0 l least π ≤ 1 := fun π => by unfold pwn1; split <;> omega
  have stf : ∀ f : Nat, f ≤ 7 → stV 4 (f : Int) = (fct f : Int) := fun f hf => by
    rcases (show f = 0 ∨ f = 1 ∨ f = 2 ∨ f = 3 ∨ f = 4 ∨ f = 5 ∨ f = 6 ∨ f = 7 by omega) with rfl | rfl | rfl | rfl | rfl | rfl | rfl | rfl <;> rfl
  have full : ∀ (f : Nat) (pre : List Nat), pre.length + f = l.length → ckl l.length f pre = true → least ≤ wcn h 0 (pml l pre) pre.length → stV 4 (f : Int) = ssum (pwn1 h 0 l least) (pext l.length f pre) := fun f pre hn ck c => by
    rw [ssum_cg (ψ := fun _ => 1) (pw_one hn c), ssum_1, pext_len ck, stf f (by omega)]
  have none0 : ∀ (f : Nat) (pre : List Nat), pre.length + f = l.length → wcn h 0 (pml l pre) pre.length + f < least → (0 : Int) = ssum (pwn1 h 0 l least) (pext l.length f pre) := fun f pre hn c => by
    rw [ssum_cg (ψ := fun _ => 0) (pw_zero hn c), ssum_0]
  intro f
  induction f with
  | zero =>
    intro pre M h1 hn ck mk tr
    have e37 : h1 37 6 = l.length := (tr.1 _ _ (by unfold fTr fRow; omega)).trans r37.1
    have wr := wcn_r (h := h) (t := 0) (l := pml l pre) pre.length
    refine S185_61_45_0 (by omega) _ _ _ ?_
    rw [e37, tr.2.1, show (l.length : Int) - (pre.length : Int) = ((0 : Nat) : Int) by omega]
    exact ⟨by unfold R32; omega, fun c => ⟨fun _ => ⟨congrArg (fun x => some (vi x)) (none0 0 pre hn (by omega)), tr⟩, fun q => absurd q (by omega)⟩, fun c => ⟨fun q => absurd q (by omega), fun _ => ⟨fun q => absurd q (by omega), fun _ => ⟨congrArg (fun x => some (vi x)) (full 0 pre hn ck c), tr⟩⟩⟩⟩
  | succ f ih =>
    intro pre M h1 hn ck mk tr
    have e37 : h1 37 6 = l.length := (tr.1 _ _ (by unfold fTr fRow; omega)).trans r37.1
    have wr := wcn_r (h := h) (t := 0) (l := pml l pre) pre.length
    have tot : ssum (pwn1 h 0 l least) (pext l.length (f + 1) pre) = isu (fun i => ssum (pwn1 h 0 l least) (cond (hsN i pre) [] (pext l.length f (pre ++ [i])))) l.length := by
      show ssum (pwn1 h 0 l least) (apx (fun i => cond (hsN i pre) [] (pext l.length f (pre ++ [i]))) l.length []) = _
      rw [apx_sum]; exact Int.add_zero _
    have gp : ∀ i : Nat, 0 ≤ ssum (pwn1 h 0 l least) (cond (hsN i pre) [] (pext l.length f (pre ++ [i]))) := fun i => (ssum_r pw).1
    have sb := ssum_r pw (a := pext l.length (f + 1) pre)
    rw [pext_len ck] at sb
    have fr := fct_r (n := f + 1) (by omega)
    have ckc : ∀ q : Nat, q < l.length → hsN q pre = false → ckl l.length f (pre ++ [q]) = true := fun q hq hs => by
      have h : cond (Nat.beq (fre l.length pre l.length) (f + 1)) ((List.range l.length).all fun i => cond (hsN i pre) true (ckl l.length f (pre ++ [i]))) false = true := ck
      cases e : Nat.beq (fre l.length pre l.length) (f + 1) with
      | false => rw [e] at h; exact absurd (show (false : Bool) = true from h) (by decide)
      | true =>
        rw [e] at h
        have a := List.all_eq_true.mp (show ((List.range l.length).all fun i => cond (hsN i pre) true (ckl l.length f (pre ++ [i]))) = true from h) q (List.mem_range.mpr hq)
        rw [hs] at a; exact a
    have LP : ∀ (k q : Nat) (h2 : HP) (z5 z8 : aV), q + k = l.length → TR h h2 l pre least → Wp X (4 + Int.toNat (8 - (pre.length : Int))) 185 57 [vr 61, vr 45, vi pre.length, vi M, vi (wcn h 0 (pml l pre) pre.length), z5, vi (isu (fun i => ssum (pwn1 h 0 l least) (cond (hsN i pre) [] (pext l.length f (pre ++ [i])))) q), vi q, z8] [] h2 (fun v h2 => v = some (vi (ssum (pwn1 h 0 l least) (pext l.length (f + 1) pre))) ∧ TR h h2 l pre least) := by
      intro k
      induction k with
      | zero =>
        intro q h2 z5 z8 hq tr
        have e37 : h2 37 6 = l.length := (tr.1 _ _ (by unfold fTr fRow; omega)).trans r37.1
        have hq : q = l.length := by omega
        subst hq
        exact S185_61_45_57 (by omega) _ _ _ _ _ _ _ ⟨fun _ => ⟨by rw [tot], tr⟩, fun c => absurd c (by omega)⟩
      | succ k ihk =>
        intro q h2 z5 z8 hq tr
        have e37 : h2 37 6 = l.length := (tr.1 _ _ (by unfold fTr fRow; omega)).trans r37.1
        have im := isu_mono gp (q := q) (k + 1)
        rw [hq, ← tot] at im
        have im2 := isu_mono gp (q := q + 1) k
        rw [show q + 1 + k = l.length by omega, ← tot] at im2
        have ei : isu (fun i => ssum (pwn1 h 0 l least) (cond (hsN i pre) [] (pext l.length f (pre ++ [i])))) (q + 1) = isu (fun i => ssum (pwn1 h 0 l least) (cond (hsN i pre) [] (pext l.length f (pre ++ [i])))) q + ssum (pwn1 h 0 l least) (cond (hsN q pre) [] (pext l.length f (pre ++ [q]))) := rfl
        have go : ∀ (v : Int) (h3 : HP) (z5 z8 : aV), v = isu (fun i => ssum (pwn1 h 0 l least) (cond (hsN i pre) [] (pext l.length f (pre ++ [i])))) (q + 1) → TR h h3 l pre least → Wp X (4 + Int.toNat (8 - (pre.length : Int))) 185 57 [vr 61, vr 45, vi pre.length, vi M, vi (wcn h 0 (pml l pre) pre.length), z5, vi v, vi ((q : Int) + 1), z8] [] h3 (fun v h2 => v = some (vi (ssum (pwn1 h 0 l least) (pext l.length (f + 1) pre))) ∧ TR h h2 l pre least) := fun v h3 z5 z8 ev tr3 => by
          rw [ev]; exact ihk (q + 1) h3 z5 z8 (by omega) tr3
        clear ihk
        have m31 : M < 2 ^ 31 := Nat.lt_trans mk.1 (by decide)
        have rq := r37.2.2 q (by omega)
        have e38 : h2 38 (q : Int) = l.getD q 0 := (tr.1 _ _ (by unfold fTr fRow; omega)).trans rq.1
        have e39 : h2 39 (q : Int) = mnV (VL h) (l.getD q 0) := (tr.1 _ _ (by unfold fTr fRow; omega)).trans rq.2.1
        have e40 : h2 40 (q : Int) = qsg (mq5 h) (l.getD q 0) := (tr.1 _ _ (by unfold fTr fRow; omega)).trans rq.2.2.1
        have nextp : hsN q pre = false → ∀ (h3 : HP) (l2 : List Int), l2.length = pre.length → (∀ p : Nat, p < pre.length → l2.getD p 0 = (pml l pre).getD p 0) → RowIs 62 h3 l2 (mnV (VL h)) (qsg (mq5 h)) → Fr fTr h h3 → h3 61 2 = least → Wp X 0 198 0 [vr 62, vi (l.getD q 0), vi (mnV (VL h) (l.getD q 0)), vi (qsg (mq5 h) (l.getD q 0)), vu, vu] [] h3 (fun v h' => Wp X (4 + Int.toNat (8 - (pre.length : Int))) 185 120 [vr 61, vr 45, vi pre.length, vi M, vi (wcn h 0 (pml l pre) pre.length), z5, vi (isu (fun i => ssum (pwn1 h 0 l least) (cond (hsN i pre) [] (pext l.length f (pre ++ [i])))) q), vi q, z8] (psh v []) h' (fun v h2 => v = some (vi (ssum (pwn1 h 0 l least) (pext l.length (f + 1) pre))) ∧ TR h h2 l pre least)) := by
          intro hs h3 l2 len l2q r3 F3 e61
          refine (K198_62 r3 (by omega)).mono fun v h4 _ fx => ?_
          obtain ⟨rfl, F4, r4⟩ := fx
          have F34 : Fr fTr h h4 := F3.tr (F4.mo fun a j c => .inr c)
          have td4 := td.2.2.fr F34 (fun a j c => by unfold fTr fRow at c; omega)
          have e61' : h4 61 2 = least := (F4 _ _ (by unfold fRow; omega)).trans e61
          have lq : ∀ p : Nat, p < pre.length + 1 → (l2 ++ [l.getD q 0]).getD p 0 = (pml l (pre ++ [q])).getD p 0 := fun p hp => by
            rw [pml_app, app_at]
            show _ = (pml l pre ++ [l.getD q 0]).getD p 0
            rw [app_at, pml_len, len]
            by_cases c : p < pre.length
            · rw [if_pos c, if_pos c, l2q p c]
            · rw [if_neg c, if_neg c]
          have ln : (l2 ++ [l.getD q 0]).length = pre.length + 1 := by rw [List.length_append, len]; rfl
          have pn : (pre ++ [q]).length = pre.length + 1 := by rw [List.length_append]; rfl
          refine S185_61_45_120 (by omega) _ _ _ _ _ _ _ ((K208_45_62 NRu_ok (td4.2 hf).2 r4 (fun _ => qsg_r) (p := pre.length) (by omega)).mono fun v h5 _ fx => ?_)
          obtain ⟨rfl, rfl⟩ := fx
          have ew : bys (RTi (Wt h 0) (mnV (VL h)) (qsg (mq5 h)) (l2 ++ [l.getD q 0]) pre.length) (NRu (Wt h 0) (h 104 0)) = wby h 0 (pml l (pre ++ [q])) pre.length := (rfl : _ = wby h 0 (l2 ++ [l.getD q 0]) pre.length).trans (wby_cg fun p hp => lq p (by omega))
          rw [ew]
          have child := ih (pre ++ [q]) (M ||| 2 ^ q) h5 (by omega) (ckc q (by omega) hs) (mk.app (by omega)) ⟨F34, e61', _, r4, by omega, fun p hp => lq p (by omega)⟩
          have ec : wcn h 0 (pml l (pre ++ [q])) (pre.length + 1) = wcn h 0 (pml l pre) pre.length + (if wby h 0 (pml l (pre ++ [q])) pre.length ≠ 0 then 1 else 0) := by
            show wcn h 0 (pml l (pre ++ [q])) pre.length + _ = _
            rw [wcn_cg (l1 := pml l (pre ++ [q])) (l2 := pml l pre) (fun p hp => pml_pre hp)]
          rw [pn, ec, Int.natCast_succ] at child
          rw [hs] at ei
          have ei : isu (fun i => ssum (pwn1 h 0 l least) (cond (hsN i pre) [] (pext l.length f (pre ++ [i])))) (q + 1) = isu (fun i => ssum (pwn1 h 0 l least) (cond (hsN i pre) [] (pext l.length f (pre ++ [i])))) q + ssum (pwn1 h 0 l least) (pext l.length f (pre ++ [q])) := ei
          have mkN : (i32 (M : Int) ||| i32 ((i32 1 <<< (i32 (q : Int) &&& 31)).toInt)).toInt = ((M ||| 2 ^ q : Nat) : Int) := by
            rw [shl_N (k := q) (by omega), or_N m31 (Nat.pow_lt_pow_right (by decide) (by omega))]
          have sc := ssum_r pw (a := pext l.length f (pre ++ [q]))
          refine S185_61_45_129 (by omega) _ _ _ _ _ _ _ _ ?_
          rw [mkN]
          refine ⟨fun c => ⟨by unfold R32; omega, by unfold R32; omega, by omega, ?_⟩, fun c => ⟨by unfold R32; omega, by unfold R32; omega, by omega, ?_⟩⟩
          · rw [if_neg (fun w => by rw [if_pos w] at c; omega)] at child
            refine child.mono fun v h6 _ fx => ?_
            obtain ⟨rfl, tr6⟩ := fx
            exact S185_61_45_160 (by omega) _ _ _ _ _ _ _ _ _ ⟨by unfold R32; omega, by unfold R32; omega, go _ h6 _ _ (by omega) tr6.less⟩
          · rw [if_pos (fun w => c (by rw [if_neg (fun x => x w)]))] at child
            refine child.mono fun v h6 _ fx => ?_
            obtain ⟨rfl, tr6⟩ := fx
            exact S185_61_45_160 (by omega) _ _ _ _ _ _ _ _ _ ⟨by unfold R32; omega, by unfold R32; omega, go _ h6 _ _ (by omega) tr6.less⟩
        refine S185_61_45_57 (by omega) _ _ _ _ _ _ _ ⟨fun c => absurd c (by omega), fun _ => ?_⟩
        rw [bit_N m31 (by omega), mk.2 q (by omega), e38, e39, e40]
        cases hs : hsN q pre with
        | true =>
          rw [hs] at ei
          exact ⟨fun _ => ⟨by unfold R32; omega, go _ h2 _ _ (by rw [ei]; exact (Int.add_zero _).symm) tr⟩, fun c => absurd c (by decide)⟩
        | false =>
          refine ⟨fun c => absurd rfl c, fun _ => ⟨fun c => absurd c (by omega), fun _ => ⟨fun c => ⟨fun c2 => absurd c2 (by omega), fun _ => ⟨⟨by omega, by omega⟩, ?_⟩⟩, fun c => ⟨fun c2 => absurd c2 (by omega), fun _ => ⟨⟨by omega, by omega⟩, ?_⟩⟩⟩⟩⟩
          · obtain ⟨F, e61, l', r', hl', hq'⟩ := tr
            exact nextp hs h2 l' (by have := r'.1; omega) hq' r' F e61
          · obtain ⟨F, e61, l', r', hl', hq'⟩ := tr
            obtain ⟨l2, len, l2q, r2⟩ := row_take r' hl'
            exact nextp hs _ l2 len (fun p hp => by rw [l2q p hp, hq' p hp]) r2 (F.up (.inr (.inl ⟨rfl, rfl⟩))) (by rw [upd2_ne (by decide)]; exact e61)
    refine S185_61_45_0 (by omega) _ _ _ ?_
    rw [e37, tr.2.1, show (l.length : Int) - (pre.length : Int) = ((f + 1 : Nat) : Int) by omega]
    exact ⟨by unfold R32; omega, fun c => ⟨fun q => absurd q (by omega), fun _ => ⟨fun q => absurd q (by omega), fun _ => ⟨by unfold R32; omega, fun c2 => LP l.length 0 h1 _ _ (by omega) tr, fun c2 => ⟨congrArg (fun x => some (vi x)) (none0 (f + 1) pre hn c2), tr⟩⟩⟩⟩, fun c => ⟨fun q => absurd q (by omega), fun _ => ⟨fun q => absurd q (by omega), fun _ => ⟨congrArg (fun x => some (vi x)) (full (f + 1) pre hn ck c), tr⟩⟩⟩⟩
theorem K185_53 {h : HP} (i : Inv h) {least : Int} {l : List Int} (el : l = rwl (VL h) (gn h)) (hf : B_fault h 1 = -1) (h7 : l.length ≤ 7) (hle : 0 ≤ least ∧ least ≤ 20) : ∀ (f : Nat) (pre : List Nat) (M : Nat) (h1 : HP), pre.length + f = l.length → ckl l.length f pre = true → MK pre M → TR h h1 l pre least → Wp X (4 + Int.toNat (8 - (pre.length : Int))) 185 0 [vr 61, vr 53, vi pre.length, vi M, vi (wcn h 1 (pml l pre) pre.length), vu, vu, vu, vu] [] h1 (fun v h2 => v = some (vi (ssum (pwn1 h 1 l least) (pext l.length f pre))) ∧ TR h h2 l pre least) := by
  have r37 := i.row
  rw [← el] at r37
  have td : I_txt 53 1 h := by have x := i.1.2.2.2.1; first | exact x.2.1 | exact x.2.2
  have ff := td.2.2.2 hf
  have pw : ∀ π, 0 ≤ pwn1 h 1 l least π ∧ pwn1 h 1 l least π ≤ 1 := fun π => by unfold pwn1; split <;> omega
  have stf : ∀ f : Nat, f ≤ 7 → stV 4 (f : Int) = (fct f : Int) := fun f hf => by
    rcases (show f = 0 ∨ f = 1 ∨ f = 2 ∨ f = 3 ∨ f = 4 ∨ f = 5 ∨ f = 6 ∨ f = 7 by omega) with rfl | rfl | rfl | rfl | rfl | rfl | rfl | rfl <;> rfl
  have full : ∀ (f : Nat) (pre : List Nat), pre.length + f = l.length → ckl l.length f pre = true → least ≤ wcn h 1 (pml l pre) pre.length → stV 4 (f : Int) = ssum (pwn1 h 1 l least) (pext l.length f pre) := fun f pre hn ck c => by
    rw [ssum_cg (ψ := fun _ => 1) (pw_one hn c), ssum_1, pext_len ck, stf f (by omega)]
  have none0 : ∀ (f : Nat) (pre : List Nat), pre.length + f = l.length → wcn h 1 (pml l pre) pre.length + f < least → (0 : Int) = ssum (pwn1 h 1 l least) (pext l.length f pre) := fun f pre hn c => by
    rw [ssum_cg (ψ := fun _ => 0) (pw_zero hn c), ssum_0]
  intro f
  induction f with
  | zero =>
    intro pre M h1 hn ck mk tr
    have e37 : h1 37 6 = l.length := (tr.1 _ _ (by unfold fTr fRow; omega)).trans r37.1
    have wr := wcn_r (h := h) (t := 1) (l := pml l pre) pre.length
    refine S185_61_53_0 (by omega) _ _ _ ?_
    rw [e37, tr.2.1, show (l.length : Int) - (pre.length : Int) = ((0 : Nat) : Int) by omega]
    exact ⟨by unfold R32; omega, fun c => ⟨fun _ => ⟨congrArg (fun x => some (vi x)) (none0 0 pre hn (by omega)), tr⟩, fun q => absurd q (by omega)⟩, fun c => ⟨fun q => absurd q (by omega), fun _ => ⟨fun q => absurd q (by omega), fun _ => ⟨congrArg (fun x => some (vi x)) (full 0 pre hn ck c), tr⟩⟩⟩⟩
  | succ f ih =>
    intro pre M h1 hn ck mk tr
    have e37 : h1 37 6 = l.length := (tr.1 _ _ (by unfold fTr fRow; omega)).trans r37.1
    have wr := wcn_r (h := h) (t := 1) (l := pml l pre) pre.length
    have tot : ssum (pwn1 h 1 l least) (pext l.length (f + 1) pre) = isu (fun i => ssum (pwn1 h 1 l least) (cond (hsN i pre) [] (pext l.length f (pre ++ [i])))) l.length := by
      show ssum (pwn1 h 1 l least) (apx (fun i => cond (hsN i pre) [] (pext l.length f (pre ++ [i]))) l.length []) = _
      rw [apx_sum]; exact Int.add_zero _
    have gp : ∀ i : Nat, 0 ≤ ssum (pwn1 h 1 l least) (cond (hsN i pre) [] (pext l.length f (pre ++ [i]))) := fun i => (ssum_r pw).1
    have sb := ssum_r pw (a := pext l.length (f + 1) pre)
    rw [pext_len ck] at sb
    have fr := fct_r (n := f + 1) (by omega)
    have ckc : ∀ q : Nat, q < l.length → hsN q pre = false → ckl l.length f (pre ++ [q]) = true := fun q hq hs => by
      have h : cond (Nat.beq (fre l.length pre l.length) (f + 1)) ((List.range l.length).all fun i => cond (hsN i pre) true (ckl l.length f (pre ++ [i]))) false = true := ck
      cases e : Nat.beq (fre l.length pre l.length) (f + 1) with
      | false => rw [e] at h; exact absurd (show (false : Bool) = true from h) (by decide)
      | true =>
        rw [e] at h
        have a := List.all_eq_true.mp (show ((List.range l.length).all fun i => cond (hsN i pre) true (ckl l.length f (pre ++ [i]))) = true from h) q (List.mem_range.mpr hq)
        rw [hs] at a; exact a
    have LP : ∀ (k q : Nat) (h2 : HP) (z5 z8 : aV), q + k = l.length → TR h h2 l pre least → Wp X (4 + Int.toNat (8 - (pre.length : Int))) 185 57 [vr 61, vr 53, vi pre.length, vi M, vi (wcn h 1 (pml l pre) pre.length), z5, vi (isu (fun i => ssum (pwn1 h 1 l least) (cond (hsN i pre) [] (pext l.length f (pre ++ [i])))) q), vi q, z8] [] h2 (fun v h2 => v = some (vi (ssum (pwn1 h 1 l least) (pext l.length (f + 1) pre))) ∧ TR h h2 l pre least) := by
      intro k
      induction k with
      | zero =>
        intro q h2 z5 z8 hq tr
        have e37 : h2 37 6 = l.length := (tr.1 _ _ (by unfold fTr fRow; omega)).trans r37.1
        have hq : q = l.length := by omega
        subst hq
        exact S185_61_53_57 (by omega) _ _ _ _ _ _ _ ⟨fun _ => ⟨by rw [tot], tr⟩, fun c => absurd c (by omega)⟩
      | succ k ihk =>
        intro q h2 z5 z8 hq tr
        have e37 : h2 37 6 = l.length := (tr.1 _ _ (by unfold fTr fRow; omega)).trans r37.1
        have im := isu_mono gp (q := q) (k + 1)
        rw [hq, ← tot] at im
        have im2 := isu_mono gp (q := q + 1) k
        rw [show q + 1 + k = l.length by omega, ← tot] at im2
        have ei : isu (fun i => ssum (pwn1 h 1 l least) (cond (hsN i pre) [] (pext l.length f (pre ++ [i])))) (q + 1) = isu (fun i => ssum (pwn1 h 1 l least) (cond (hsN i pre) [] (pext l.length f (pre ++ [i])))) q + ssum (pwn1 h 1 l least) (cond (hsN q pre) [] (pext l.length f (pre ++ [q]))) := rfl
        have go : ∀ (v : Int) (h3 : HP) (z5 z8 : aV), v = isu (fun i => ssum (pwn1 h 1 l least) (cond (hsN i pre) [] (pext l.length f (pre ++ [i])))) (q + 1) → TR h h3 l pre least → Wp X (4 + Int.toNat (8 - (pre.length : Int))) 185 57 [vr 61, vr 53, vi pre.length, vi M, vi (wcn h 1 (pml l pre) pre.length), z5, vi v, vi ((q : Int) + 1), z8] [] h3 (fun v h2 => v = some (vi (ssum (pwn1 h 1 l least) (pext l.length (f + 1) pre))) ∧ TR h h2 l pre least) := fun v h3 z5 z8 ev tr3 => by
          rw [ev]; exact ihk (q + 1) h3 z5 z8 (by omega) tr3
        clear ihk
        have m31 : M < 2 ^ 31 := Nat.lt_trans mk.1 (by decide)
        have rq := r37.2.2 q (by omega)
        have e38 : h2 38 (q : Int) = l.getD q 0 := (tr.1 _ _ (by unfold fTr fRow; omega)).trans rq.1
        have e39 : h2 39 (q : Int) = mnV (VL h) (l.getD q 0) := (tr.1 _ _ (by unfold fTr fRow; omega)).trans rq.2.1
        have e40 : h2 40 (q : Int) = qsg (mq5 h) (l.getD q 0) := (tr.1 _ _ (by unfold fTr fRow; omega)).trans rq.2.2.1
        have nextp : hsN q pre = false → ∀ (h3 : HP) (l2 : List Int), l2.length = pre.length → (∀ p : Nat, p < pre.length → l2.getD p 0 = (pml l pre).getD p 0) → RowIs 62 h3 l2 (mnV (VL h)) (qsg (mq5 h)) → Fr fTr h h3 → h3 61 2 = least → Wp X 0 198 0 [vr 62, vi (l.getD q 0), vi (mnV (VL h) (l.getD q 0)), vi (qsg (mq5 h) (l.getD q 0)), vu, vu] [] h3 (fun v h' => Wp X (4 + Int.toNat (8 - (pre.length : Int))) 185 120 [vr 61, vr 53, vi pre.length, vi M, vi (wcn h 1 (pml l pre) pre.length), z5, vi (isu (fun i => ssum (pwn1 h 1 l least) (cond (hsN i pre) [] (pext l.length f (pre ++ [i])))) q), vi q, z8] (psh v []) h' (fun v h2 => v = some (vi (ssum (pwn1 h 1 l least) (pext l.length (f + 1) pre))) ∧ TR h h2 l pre least)) := by
          intro hs h3 l2 len l2q r3 F3 e61
          refine (K198_62 r3 (by omega)).mono fun v h4 _ fx => ?_
          obtain ⟨rfl, F4, r4⟩ := fx
          have F34 : Fr fTr h h4 := F3.tr (F4.mo fun a j c => .inr c)
          have td4 := td.2.2.fr F34 (fun a j c => by unfold fTr fRow at c; omega)
          have e61' : h4 61 2 = least := (F4 _ _ (by unfold fRow; omega)).trans e61
          have lq : ∀ p : Nat, p < pre.length + 1 → (l2 ++ [l.getD q 0]).getD p 0 = (pml l (pre ++ [q])).getD p 0 := fun p hp => by
            rw [pml_app, app_at]
            show _ = (pml l pre ++ [l.getD q 0]).getD p 0
            rw [app_at, pml_len, len]
            by_cases c : p < pre.length
            · rw [if_pos c, if_pos c, l2q p c]
            · rw [if_neg c, if_neg c]
          have ln : (l2 ++ [l.getD q 0]).length = pre.length + 1 := by rw [List.length_append, len]; rfl
          have pn : (pre ++ [q]).length = pre.length + 1 := by rw [List.length_append]; rfl
          refine S185_61_53_120 (by omega) _ _ _ _ _ _ _ ((K208_53_62 NRu_ok (td4.2 hf).2 r4 (fun _ => qsg_r) (p := pre.length) (by omega)).mono fun v h5 _ fx => ?_)
          obtain ⟨rfl, rfl⟩ := fx
          have ew : bys (RTi (Wt h 1) (mnV (VL h)) (qsg (mq5 h)) (l2 ++ [l.getD q 0]) pre.length) (NRu (Wt h 1) (h 104 1)) = wby h 1 (pml l (pre ++ [q])) pre.length := (rfl : _ = wby h 1 (l2 ++ [l.getD q 0]) pre.length).trans (wby_cg fun p hp => lq p (by omega))
          rw [ew]
          have child := ih (pre ++ [q]) (M ||| 2 ^ q) h5 (by omega) (ckc q (by omega) hs) (mk.app (by omega)) ⟨F34, e61', _, r4, by omega, fun p hp => lq p (by omega)⟩
          have ec : wcn h 1 (pml l (pre ++ [q])) (pre.length + 1) = wcn h 1 (pml l pre) pre.length + (if wby h 1 (pml l (pre ++ [q])) pre.length ≠ 0 then 1 else 0) := by
            show wcn h 1 (pml l (pre ++ [q])) pre.length + _ = _
            rw [wcn_cg (l1 := pml l (pre ++ [q])) (l2 := pml l pre) (fun p hp => pml_pre hp)]
          rw [pn, ec, Int.natCast_succ] at child
          rw [hs] at ei
          have ei : isu (fun i => ssum (pwn1 h 1 l least) (cond (hsN i pre) [] (pext l.length f (pre ++ [i])))) (q + 1) = isu (fun i => ssum (pwn1 h 1 l least) (cond (hsN i pre) [] (pext l.length f (pre ++ [i])))) q + ssum (pwn1 h 1 l least) (pext l.length f (pre ++ [q])) := ei
          have mkN : (i32 (M : Int) ||| i32 ((i32 1 <<< (i32 (q : Int) &&& 31)).toInt)).toInt = ((M ||| 2 ^ q : Nat) : Int) := by
            rw [shl_N (k := q) (by omega), or_N m31 (Nat.pow_lt_pow_right (by decide) (by omega))]
          have sc := ssum_r pw (a := pext l.length f (pre ++ [q]))
          refine S185_61_53_129 (by omega) _ _ _ _ _ _ _ _ ?_
          rw [mkN]
          refine ⟨fun c => ⟨by unfold R32; omega, by unfold R32; omega, by omega, ?_⟩, fun c => ⟨by unfold R32; omega, by unfold R32; omega, by omega, ?_⟩⟩
          · rw [if_neg (fun w => by rw [if_pos w] at c; omega)] at child
            refine child.mono fun v h6 _ fx => ?_
            obtain ⟨rfl, tr6⟩ := fx
            exact S185_61_53_160 (by omega) _ _ _ _ _ _ _ _ _ ⟨by unfold R32; omega, by unfold R32; omega, go _ h6 _ _ (by omega) tr6.less⟩
          · rw [if_pos (fun w => c (by rw [if_neg (fun x => x w)]))] at child
            refine child.mono fun v h6 _ fx => ?_
            obtain ⟨rfl, tr6⟩ := fx
            exact S185_61_53_160 (by omega) _ _ _ _ _ _ _ _ _ ⟨by unfold R32; omega, by unfold R32; omega, go _ h6 _ _ (by omega) tr6.less⟩
        refine S185_61_53_57 (by omega) _ _ _ _ _ _ _ ⟨fun c => absurd c (by omega), fun _ => ?_⟩
        rw [bit_N m31 (by omega), mk.2 q (by omega), e38, e39, e40]
        cases hs : hsN q pre with
        | true =>
          rw [hs] at ei
          exact ⟨fun _ => ⟨by unfold R32; omega, go _ h2 _ _ (by rw [ei]; exact (Int.add_zero _).symm) tr⟩, fun c => absurd c (by decide)⟩
        | false =>
          refine ⟨fun c => absurd rfl c, fun _ => ⟨fun c => absurd c (by omega), fun _ => ⟨fun c => ⟨fun c2 => absurd c2 (by omega), fun _ => ⟨⟨by omega, by omega⟩, ?_⟩⟩, fun c => ⟨fun c2 => absurd c2 (by omega), fun _ => ⟨⟨by omega, by omega⟩, ?_⟩⟩⟩⟩⟩
          · obtain ⟨F, e61, l', r', hl', hq'⟩ := tr
            exact nextp hs h2 l' (by have := r'.1; omega) hq' r' F e61
          · obtain ⟨F, e61, l', r', hl', hq'⟩ := tr
            obtain ⟨l2, len, l2q, r2⟩ := row_take r' hl'
            exact nextp hs _ l2 len (fun p hp => by rw [l2q p hp, hq' p hp]) r2 (F.up (.inr (.inl ⟨rfl, rfl⟩))) (by rw [upd2_ne (by decide)]; exact e61)
    refine S185_61_53_0 (by omega) _ _ _ ?_
    rw [e37, tr.2.1, show (l.length : Int) - (pre.length : Int) = ((f + 1 : Nat) : Int) by omega]
    exact ⟨by unfold R32; omega, fun c => ⟨fun q => absurd q (by omega), fun _ => ⟨fun q => absurd q (by omega), fun _ => ⟨by unfold R32; omega, fun c2 => LP l.length 0 h1 _ _ (by omega) tr, fun c2 => ⟨congrArg (fun x => some (vi x)) (none0 (f + 1) pre hn c2), tr⟩⟩⟩⟩, fun c => ⟨fun q => absurd q (by omega), fun _ => ⟨fun q => absurd q (by omega), fun _ => ⟨congrArg (fun x => some (vi x)) (full (f + 1) pre hn ck c), tr⟩⟩⟩⟩
end
