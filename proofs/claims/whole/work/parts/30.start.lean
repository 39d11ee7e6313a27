-- ===== the law's start: the abstract world that stands there =====
def stV (a : Nat) (j : Int) : Int := match a with
  | 1 => ([0, 19, 58, 999, 1, 9, 2, 2, 10, 10] : List Int).getD j.toNat 0
  | 2 => ([0, 0, 0, 0, 0, 0, 0, 1, 0, 0] : List Int).getD j.toNat 0
  | 3 => ([19, 19, 999, 999, 99, 9999, 19, 8, 99, 99] : List Int).getD j.toNat 0
  | 4 => ([1, 1, 2, 6, 24, 120, 720, 5040] : List Int).getD j.toNat 0
  | _ => 0
def stL (a : Nat) : Nat := match a with
  | 4 => 8
  | _ => 10
def SH0 (N : Nat) : SH := [(99, 0), (5, 10), (5, 10), (5, 10), (5, 8), (5, N)]
def HP0 (xs : Int → Int) : HP := fun a j => if a = 5 then xs j else stV a j
theorem stat_of {args : Array Value} {s : State} {C n : String} {N : Nat} {f : Nat → Int32} {A : Nat → Prop} (hN : N < 2 ^ 31) (hl : (Cond.laysStatic C n "[I").before args s = true) (hini : (Cond.initialized C).before args s = true) (harr : (Cond.arrayOf (.static C n "[I") .int).before args s = true) (hlen0 : (Cond.eq (.length (.static C n "[I")) (.int (Int32.ofNat N))).before args s = true) (hex : (Cond.exactly (.static C n "[I") "[I").before args s = true) (hel0 : ∀ j : Nat, j < N → (Cond.eq (.elem (.static C n "[I") (.int (Int32.ofNat j))) (.int (f j))).before args s = true) (hA : ∀ a : Nat, a < s.heap.size → ¬ A a) :
    ∃ (t : Nat) (cell : Cell), va_Z C n "[I" (.ref t) A s s.heap ∧ s.heap[t]? = some cell ∧ s.isArrayOf cell .int ∧ cell.vm ≠ .unknown ∧ cell.vm.isStatics = false ∧ s.vm.findClass "[I" = some cell.cls ∧ cell.slots.size = N ∧ ∀ j : Nat, j < N → cell.slots[j]? = some (.int (f j)) := by
  have hlen := va_eqt hlen0
  obtain ⟨t, cell, ht, hat, hv⟩ := Term.length_spec hlen
  obtain ⟨hcell, hkn, hst, -⟩ := State.arrayAt?_spec hat
  obtain ⟨hof, -⟩ := Cond.arrayOf_spec harr ht hcell
  obtain ⟨a2, c2, cell2, k2, x1, x2, x3, x4, x5, x6, -⟩ := Cond.exactly_spec hex
  cases ht.symm.trans x1
  cases hcell.symm.trans x3
  have hsz : cell.slots.size = N := by
    have h1 := hlen
    unfold Term.eval at h1
    rw [ht] at h1
    simp only [Option.bind_eq_bind, Option.bind_some, hat] at h1
    split at h1
    · rename_i hlt
      have h2 : cell.slots.size.toInt32 = Int32.ofNat N := by simpa using h1
      exact (nI_eq hlt hN).mp h2
    · cases h1
  refine ⟨t, cell, va_Zref hl hini ht hA, hcell, hof, hkn, hst, by rw [x6]; exact x2, hsz, fun j hj => ?_⟩
  obtain ⟨a, i, cell2, h1, h2, h3, h4, h5⟩ := Term.elem_spec (va_eqt (hel0 j hj))
  cases ht.symm.trans h1
  cases hat.symm.trans h3
  have hi : i = Int32.ofNat j := by
    have e : (Term.int (Int32.ofNat j)).eval args s none [] s = some (.int (Int32.ofNat j)) := rfl
    cases h2.symm.trans e
    rfl
  have hc : i.toNatClampNeg = j := by rw [hi]; exact Int32.toNatClampNeg_ofNat_of_lt (Nat.lt_trans hj hN)
  rw [hc] at h5
  exact h5
theorem flat_lens : ∀ a, a < 5 → 1 ≤ a → (Cond.arrayOf (.static (stC a) (stN a) "[I") .int) ∈ flatC (Jvm.Cond.and given_1 narrow_1) ∧ (Cond.eq (.length (.static (stC a) (stN a) "[I")) (.int (Int32.ofNat (stL a)))) ∈ flatC (Jvm.Cond.and given_1 narrow_1) ∧ (Cond.exactly (.static (stC a) (stN a) "[I") "[I") ∈ flatC (Jvm.Cond.and given_1 narrow_1) := by decide +kernel
theorem flat_elems : ∀ a, a < 5 → 1 ≤ a → ∀ j, j < stL a → (Cond.eq (.elem (.static (stC a) (stN a) "[I") (.int (Int32.ofNat j))) (.int (i32 (stV a j)))) ∈ flatC (Jvm.Cond.and given_1 narrow_1) := by decide +kernel
theorem flat_words : ∀ a, a < 5 → 1 ≤ a → (Cond.laysStatic (stC a) (stN a) "[I") ∈ lw_tbl ∧ (Cond.initialized (stC a)) ∈ lw_tbl := by decide +kernel
theorem w_AO6 : Cond.arrayOver (.object "WarnLines$RuleText") ∈ lw_tbl := by decide +kernel
theorem w_AO7 : Cond.arrayOver (.object "WarnLines$Sheet") ∈ lw_tbl := by decide +kernel
theorem w_AOI : Cond.arrayOver (.array .int) ∈ lw_tbl := by decide +kernel
theorem w_Cs : Cond.castable "[I" "java/lang/Cloneable" ∈ lw_tbl := by decide +kernel
theorem w_nest : ∀ q ∈ nestL, Cond.methodLinkNest q.1 q.2.1 q.2.2 "WarnLines" ∈ lw_tbl := by decide +kernel
theorem bc_law : bc 247 = code := by
  unfold bc
  have h : lw_tbl[pcw 247]? = none := by decide +kernel
  rw [h]
  rfl
theorem arr_of {s : State} {args : Array Value} {ty : FieldType} (h : (Cond.arrayClass ty).before args s = true) : ∃ cA : ClassId, ArrOfT s cA ty ∧ s.vm.findClass ("[" ++ ty.toString) = some cA := by
  obtain ⟨c, k, comp, h1, h2, h3⟩ := Cond.arrayClass_spec h
  exact ⟨c, fun n z => ⟨fun k h => (by cases h), k, h2, comp, h3⟩, h1⟩
theorem stV_R : ∀ a, a < 5 → ∀ j : Nat, j < 10 → -2147483648 ≤ stV a j ∧ stV a j < 2147483648 := by decide +kernel
theorem known_all {s : State} {args : Array Value} (hts : ∀ w ∈ lw_tbl, w.before args s = true) : ∃ (dC : Nat → ClassId) (dI : Nat → Nat → Nat), ∀ c, c < 12 → u_Kn s (cn c) (fT c) (nF c) (dC c) (dI c) := by
  have h : ∀ c, ∃ q : ClassId × (Nat → Nat), c < 12 → u_Kn s (cn c) (fT c) (nF c) q.1 q.2 := by
    intro c
    by_cases hc : c < 12
    · obtain ⟨q, hq, hqc⟩ := iws_all c hc
      subst hqc
      have hU : ∀ w ∈ u_ws (cn q.1) (fT q.1) (nF q.1), w.before args s = true := by
        intro w hw
        obtain ⟨j, hj, rfl⟩ := List.mem_map.mp hw
        obtain ⟨q2, hq2, e1, e2⟩ := fws_all q.1 hc j (List.mem_range.mp hj)
        rw [← e1, ← e2]
        exact hts _ (List.mem_of_getElem? (fws_ok q2 hq2))
      obtain ⟨cC, iS, hK⟩ := u_known (ws := u_ws (cn q.1) (fT q.1) (nF q.1)) hU (fun _ h => h) (hts _ (List.mem_of_getElem? (iws_ok q hq).1))
      exact ⟨(cC, iS), fun _ => hK⟩
    · exact ⟨(0, fun _ => 0), fun h => absurd h hc⟩
  exact ⟨fun c => (Classical.choose (h c)).1, fun c => (Classical.choose (h c)).2, fun c hc => Classical.choose_spec (h c) hc⟩
theorem rows_all {s : State} {args : Array Value} (hts : ∀ w ∈ lw_tbl, w.before args s = true) : ∃ aC : Nat → ClassId, ∀ t, t < 7 → t ≠ 5 → ArrOfT s (aC t) (tyA t) ∧ va_RA s (aC t) (tyA t) := by
  have h : ∀ t, ∃ cA : ClassId, t < 7 → t ≠ 5 → ArrOfT s cA (tyA t) ∧ va_RA s cA (tyA t) := by
    intro t
    match t with
    | 0 =>
      obtain ⟨cA, h1, h2⟩ := arr_of (hts _ w_arrI)
      exact ⟨cA, fun _ _ => ⟨h1, h2⟩⟩
    | 1 =>
      obtain ⟨cA, h1, h2⟩ := arr_of (hts _ w_arrJ)
      exact ⟨cA, fun _ _ => ⟨h1, h2⟩⟩
    | 2 =>
      obtain ⟨cA, h1, h2⟩ := arr_of (hts _ w_arrZ)
      exact ⟨cA, fun _ _ => ⟨h1, h2⟩⟩
    | 3 =>
      obtain ⟨comp, c, k, h1, -, h3, h4, h5⟩ := Cond.arrayOver_spec (hts _ w_AO6)
      exact ⟨c, fun _ _ => ⟨fun n z => ⟨fun k h => (by cases h), k, h3, comp, h4⟩, k, comp, h3, h4, h1, h5⟩⟩
    | 4 =>
      obtain ⟨comp, c, k, h1, -, h3, h4, h5⟩ := vx_AO_spec (hts _ w_AOI)
      exact ⟨c, fun _ _ => ⟨fun n z => ⟨fun k h => (by cases h), k, h3, comp, h4⟩, h5⟩⟩
    | 6 =>
      obtain ⟨comp, c, k, h1, -, h3, h4, h5⟩ := Cond.arrayOver_spec (hts _ w_AO7)
      exact ⟨c, fun _ _ => ⟨fun n z => ⟨fun k h => (by cases h), k, h3, comp, h4⟩, k, comp, h3, h4, h1, h5⟩⟩
    | 5 => exact ⟨0, fun _ h => absurd rfl h⟩
    | t + 7 => exact ⟨0, fun h => by omega⟩
  exact ⟨fun t => Classical.choose (h t), fun t h1 h2 => Classical.choose_spec (h t) h1 h2⟩
/-- the law's start, as the abstract machine sees it -/
theorem start_of {s : State} {args : Array Value} {b N : Nat} {xs : Nat → Int32} (hN : N ≤ 3072) (hts : ∀ w ∈ lw_tbl, w.before args s = true) (hgv : (Jvm.Cond.and given_1 narrow_1).before args s = true) (hX : va_X b N xs s s.heap) (hbl : b < s.heap.size) : ∃ D : sD, D.2.2.2.1 = s.heap.size ∧ D.2.2.2.2 5 = b ∧ KT D s ∧ CW D (SH0 N) (HP0 fun j => (xs j.toNat).toInt) s.heap := by
  have hfl := flat_of_before _ hgv
  obtain ⟨dC, dI, hKn⟩ := known_all hts
  obtain ⟨aC, hAr⟩ := rows_all hts
  have hst : ∀ a, ∃ t : Nat, a < 5 → 1 ≤ a → ∃ cell : Cell, va_Z (stC a) (stN a) "[I" (.ref t) (fun q => s.heap.size ≤ q) s s.heap ∧ s.heap[t]? = some cell ∧ s.isArrayOf cell .int ∧ cell.vm ≠ .unknown ∧ cell.vm.isStatics = false ∧ s.vm.findClass "[I" = some cell.cls ∧ cell.slots.size = stL a ∧ ∀ j : Nat, j < stL a → cell.slots[j]? = some (.int (i32 (stV a j))) := by
    intro a
    by_cases h5 : a < 5 ∧ 1 ≤ a
    · obtain ⟨f1, f2, f3⟩ := flat_lens a h5.1 h5.2
      have hN9 : stL a < 2 ^ 31 := by
        unfold stL
        split <;> omega
      obtain ⟨t, cell, h⟩ := stat_of (A := fun q => s.heap.size ≤ q) (f := fun j => i32 (stV a j)) hN9 (hts _ (flat_words a h5.1 h5.2).1) (hts _ (flat_words a h5.1 h5.2).2) (hfl _ f1) (hfl _ f2) (hfl _ f3) (fun j hj => hfl _ (flat_elems a h5.1 h5.2 j hj)) (fun q hq h => by omega)
      exact ⟨t, fun _ _ => ⟨cell, h⟩⟩
    · exact ⟨0, fun h1 h2 => absurd ⟨h1, h2⟩ h5⟩
  let sA : Nat → Nat := fun a => if a = 5 then b else Classical.choose (hst a)
  have hsA : ∀ a, a < 5 → 1 ≤ a → ∃ cell : Cell, va_Z (stC a) (stN a) "[I" (.ref (sA a)) (fun q => s.heap.size ≤ q) s s.heap ∧ s.heap[sA a]? = some cell ∧ s.isArrayOf cell .int ∧ cell.vm ≠ .unknown ∧ cell.vm.isStatics = false ∧ s.vm.findClass "[I" = some cell.cls ∧ cell.slots.size = stL a ∧ ∀ j : Nat, j < stL a → cell.slots[j]? = some (.int (i32 (stV a j))) := by
    intro a h1 h2
    have e : sA a = Classical.choose (hst a) := if_neg (by omega)
    rw [e]
    exact Classical.choose_spec (hst a) h1 h2
  have hs5 : sA 5 = b := if_pos rfl
  obtain ⟨scr, x1, x2, x3, x4, x5⟩ := hX
  refine ⟨(dC, dI, aC, s.heap.size, sA), rfl, hs5, ⟨hKn, hAr, fun j h1 h2 => ?_, fun a h1 h2 => ?_, fun q hq => va_Nw.of rfl (hts _ (w_nest q hq)), ⟨Cond.castable_spec (hts _ w_Cs), va_AO.of (hts _ w_AO6), va_AO.of (hts _ w_AO7), hts _ w_AOI⟩, Nat.le_refl _⟩, ⟨⟨by show 6 ≤ 6; omega, rfl⟩, fun a h1 h2 => ?_, fun a h1 h2 => ?_, rfl⟩⟩
  · obtain ⟨cell, h, -⟩ := hsA j h2 h1
    exact h
  · by_cases h5 : a = 5
    · subst h5
      exact ⟨scr, by show s.heap[sA 5]? = _; rw [hs5]; exact x1, x2, x3, fun h => absurd h (by omega)⟩
    · obtain ⟨cell, -, g1, g2, g3, g4, g5, -⟩ := hsA a (by omega) h1
      exact ⟨cell, g1, g2, g3, fun _ => ⟨g4, g5⟩⟩
  · have h3 : a < 6 := h2
    omega
  · by_cases h5 : a = 5
    · subst h5
      refine ⟨⟨rfl, by show N < 2147483648; omega⟩, by show sA 5 < s.heap.size; rw [hs5]; exact hbl, scr, by show s.heap[sA 5]? = _; rw [hs5]; exact x1, x4, fun j hj => ?_⟩
      have hj : j < N := hj
      have e : HP0 (fun j => (xs j.toNat).toInt) 5 (j : Int) = (xs j).toInt := by
        show (xs (j : Int).toNat).toInt = _
        rw [Int.toNat_natCast]
      rw [e, i32_of]
      exact ⟨x5 j hj, R32_of _⟩
    · obtain ⟨cell, -, g1, g2, g3, g4, g5, g6, g7⟩ := hsA a (by omega) h1
      have hkd : kd (SH0 N) a = (5, stL a) := by
        have : a = 1 ∨ a = 2 ∨ a = 3 ∨ a = 4 := by omega
        rcases this with rfl | rfl | rfl | rfl <;> rfl
      have hl10 : stL a ≤ 10 := by unfold stL; split <;> omega
      rw [hkd]
      refine ⟨⟨rfl, by show stL a < 2147483648; omega⟩, (Array.getElem?_eq_some_iff.mp g1).1, cell, g1, g6, fun j hj => ?_⟩
      have hj : j < stL a := hj
      have e : HP0 (fun j => (xs j.toNat).toInt) a (j : Int) = stV a j := if_neg h5
      rw [e]
      exact ⟨g7 j hj, stV_R a (by omega) j (by omega)⟩
