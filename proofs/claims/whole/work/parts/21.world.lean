-- ===== the worlds side by side =====
/-- classes' numbers, their fields' slots, row classes' numbers, where our cells begin, where the given rows lie -/
abbrev sD : Type := (Nat → ClassId) × (Nat → Nat → Nat) × (Nat → ClassId) × Nat × (Nat → Nat)
def adr (D : sD) (a : Nat) : Nat := if a < 6 then D.2.2.2.2 a else D.2.2.2.1 + (a - 6)
def rv (D : sD) (v : aV) : Value := match v with
  | .inl x => .int (i32 x)
  | .inr (.inl x) => .long (i64 x)
  | .inr (.inr (.inl a)) => if a = 0 then .null else .ref (adr D a)
  | _ => .null
def okv (n : Nat) (v : aV) : Prop := match v with
  | .inl x => R32 x
  | .inr (.inl x) => R64 x
  | .inr (.inr (.inl a)) => a < n
  | _ => False
theorem okv.mono {n n' : Nat} {v : aV} (h : okv n v) (hn : n ≤ n') : okv n' v := by
  match v, h with
  | .inl _, h => exact h
  | .inr (.inl _), h => exact h
  | .inr (.inr (.inl _)), h => exact Nat.lt_of_lt_of_le h hn
def LR (D : sD) (nL n : Nat) (L : List aV) (ls : Array Slot) : Prop := ls.size = nL ∧ L.length = nL ∧ lv_wf ls ∧ ∀ (k : Nat) (v : aV), L[k]? = some v → v = vu ∨ (okv n v ∧ ls[k]? = some (.val (rv D v)))
theorem LR.mono {D : sD} {nL n n' : Nat} {L : List aV} {ls : Array Slot} (h : LR D nL n L ls) (hn : n ≤ n') : LR D nL n' L ls := ⟨h.1, h.2.1, h.2.2.1, fun k v hv => (h.2.2.2 k v hv).imp id fun q => ⟨q.1.mono hn, q.2⟩⟩
def asv (D : sD) (k : Nat) (v : aV) : Option (Nat × Value) := match v with
  | .inl x => some (k, rv D (vi x))
  | .inr (.inl x) => some (k, rv D (vl x))
  | .inr (.inr (.inl x)) => some (k, rv D (vr x))
  | _ => none
def asc (D : sD) (L : List aV) : List (Nat × Value) := (List.range L.length).filterMap fun k => (L[k]?).bind (asv D k)
theorem asc_mem {D : sD} {L : List aV} {k : Nat} {v : aV} (h : L[k]? = some v) (hv : v ≠ vu) : (k, rv D v) ∈ asc D L := by
  refine List.mem_filterMap.mpr ⟨k, List.mem_range.mpr (List.getElem?_eq_some_iff.mp h).1, ?_⟩
  rw [h]
  match v, hv with
  | .inl _, _ => rfl
  | .inr (.inl _), _ => rfl
  | .inr (.inr (.inl _)), _ => rfl
  | .inr (.inr (.inr ())), hv => exact absurd rfl hv
theorem asc_has {D : sD} {nL n : Nat} {L : List aV} {ls : Array Slot} (h : LR D nL n L ls) : lv_has ls nL (asc D L) := by
  refine ⟨h.1, h.2.2.1, fun q hq => ?_⟩
  obtain ⟨k, -, hk⟩ := List.mem_filterMap.mp hq
  obtain ⟨v, hv, hk⟩ := Option.bind_eq_some_iff.mp hk
  match v, hv, hk with
  | .inl x, hv, hk =>
    cases hk
    exact ((h.2.2.2 k _ hv).resolve_left (fun e => by cases e)).2
  | .inr (.inl x), hv, hk =>
    cases hk
    exact ((h.2.2.2 k _ hv).resolve_left (fun e => by cases e)).2
  | .inr (.inr (.inl x)), hv, hk =>
    cases hk
    exact ((h.2.2.2 k _ hv).resolve_left (fun e => by cases e)).2
  | .inr (.inr (.inr ())), hv, hk => cases hk
theorem sto1_len : ∀ (L : List aV) (i : Nat) (v : aV), (sto1 L i v).length = L.length
  | [], _, _ => rfl
  | _ :: _, 0, _ => rfl
  | _ :: r, k + 1, v => by simp [sto1, sto1_len r k v]
theorem sto1_get : ∀ (L : List aV) (i : Nat) (v : aV) (k : Nat), (sto1 L i v)[k]? = if k = i then (if i < L.length then some v else none) else if k + 1 = i then L[k]?.map clr1 else L[k]?
  | [], i, v, k => by
    simp only [sto1, List.getElem?_nil, List.length_nil]
    split
    · simp
    · split <;> rfl
  | x :: r, 0, v, k => by
    cases k with
    | zero => simp [sto1]
    | succ k => simp [sto1]
  | x :: r, i + 1, v, k => by
    cases k with
    | zero =>
      cases i with
      | zero => simp [sto1]
      | succ i => simp [sto1]
    | succ k =>
      simp only [sto1, List.getElem?_cons_succ, List.length_cons]
      rw [sto1_get r i v k]
      simp only [Nat.add_right_cancel_iff, Nat.add_lt_add_iff_right]
theorem sto2_len (L : List aV) (i : Nat) (v : aV) : (sto2 L i v).length = L.length := by simp [sto2, sto1_len]
theorem sto2_get (L : List aV) (i : Nat) (v : aV) (k : Nat) (h : i + 1 < L.length) : (sto2 L i v)[k]? = if k = i then some v else if k = i + 1 then some vu else if k + 1 = i then L[k]?.map clr1 else L[k]? := by
  unfold sto2
  rw [List.getElem?_set, sto1_len, sto1_get]
  by_cases e : i + 1 = k
  · subst e
    rw [if_pos rfl, if_pos h, if_neg (by omega), if_pos rfl]
  · rw [if_neg e]
    by_cases e2 : k = i
    · rw [if_pos e2, if_pos e2, if_pos (by omega)]
    · rw [if_neg e2, if_neg e2, if_neg (fun (q : k = i + 1) => e q.symm)]
theorem clr1_of {x v : aV} (h : clr1 x = v) (hv : v ≠ vu) : x = v ∧ ∀ z, v ≠ vl z := by
  match x, h with
  | .inl _, h => exact ⟨h, fun z e => by rw [← h] at e; cases e⟩
  | .inr (.inl _), h => exact absurd h.symm hv
  | .inr (.inr (.inl _)), h => exact ⟨h, fun z e => by rw [← h] at e; cases e⟩
  | .inr (.inr (.inr ())), h => exact absurd h.symm hv
theorem rv_cat1 {D : sD} {v : aV} (h : ∀ z, v ≠ vl z) : (rv D v).category ≠ 2 := by
  match v, h with
  | .inl _, _ => exact fun q => by cases q
  | .inr (.inl z), h => exact absurd rfl (h z)
  | .inr (.inr (.inl a)), _ =>
    unfold rv
    dsimp only
    split <;> exact fun q => by cases q
  | .inr (.inr (.inr ())), _ => exact fun q => by cases q
theorem LR.sto1 {D : sD} {nL n i : Nat} {v : aV} {L : List aV} {ls ls' : Array Slot} (h : LR D nL n L ls) (hv : okv n v) (hls : lv_has ls' nL ((i, rv D v) :: (asc D L).filter (fun q => !(q.1 == i) && !(q.1 + 1 == i && q.2.category == 2)))) : LR D nL n (sto1 L i v) ls' := by
  refine ⟨hls.1, by rw [sto1_len]; exact h.2.1, hls.2.1, fun k w hw => ?_⟩
  rw [sto1_get] at hw
  split at hw
  · rename_i e
    split at hw
    · cases hw
      subst e
      exact Or.inr ⟨hv, hls.2.2 _ List.mem_cons_self⟩
    · cases hw
  · rename_i hki
    by_cases hwu : w = vu
    · exact Or.inl hwu
    · right
      split at hw
      · rename_i hk1
        obtain ⟨x, hx, hxw⟩ := Option.map_eq_some_iff.mp hw
        obtain ⟨rfl, hz⟩ := clr1_of hxw hwu
        refine ⟨((h.2.2.2 k x hx).resolve_left hwu).1, hls.2.2 (k, rv D x) (List.mem_cons_of_mem _ (List.mem_filter.mpr ⟨asc_mem hx hwu, ?_⟩))⟩
        have h2 := rv_cat1 (D := D) hz
        simp [hki, h2]
      · rename_i hk1
        refine ⟨((h.2.2.2 k w hw).resolve_left hwu).1, hls.2.2 (k, rv D w) (List.mem_cons_of_mem _ (List.mem_filter.mpr ⟨asc_mem hw hwu, ?_⟩))⟩
        simp [hki, hk1]
theorem LR.sto2 {D : sD} {nL n i : Nat} {v : aV} {L : List aV} {ls ls' : Array Slot} (h : LR D nL n L ls) (hv : okv n v) (hi : i + 1 < L.length) (hls : lv_has ls' nL ((i, rv D v) :: (asc D L).filter (fun q => !(q.1 == i) && (!(q.1 == i + 1) && !(q.1 + 1 == i && q.2.category == 2))))) : LR D nL n (sto2 L i v) ls' := by
  refine ⟨hls.1, by rw [sto2_len]; exact h.2.1, hls.2.1, fun k w hw => ?_⟩
  rw [sto2_get _ _ _ _ hi] at hw
  split at hw
  · rename_i e
    cases hw
    subst e
    exact Or.inr ⟨hv, hls.2.2 _ List.mem_cons_self⟩
  · rename_i hki
    split at hw
    · cases hw
      exact Or.inl rfl
    · rename_i hki1
      by_cases hwu : w = vu
      · exact Or.inl hwu
      · right
        split at hw
        · rename_i hk1
          obtain ⟨x, hx, hxw⟩ := Option.map_eq_some_iff.mp hw
          obtain ⟨rfl, hz⟩ := clr1_of hxw hwu
          refine ⟨((h.2.2.2 k x hx).resolve_left hwu).1, hls.2.2 (k, rv D x) (List.mem_cons_of_mem _ (List.mem_filter.mpr ⟨asc_mem hx hwu, ?_⟩))⟩
          have h2 := rv_cat1 (D := D) hz
          simp [hki, hki1, h2]
        · rename_i hk1
          refine ⟨((h.2.2.2 k w hw).resolve_left hwu).1, hls.2.2 (k, rv D w) (List.mem_cons_of_mem _ (List.mem_filter.mpr ⟨asc_mem hw hwu, ?_⟩))⟩
          simp [hki, hki1, hk1]
-- cells
def fV (D : sD) (h : HP) (c a j : Nat) : Value := match fkd (64 * c + j) with
  | 0 => .int (i32 (h a j))
  | 1 => .long (i64 (h a j))
  | _ => rv D (vr (h a j).toNat)
def fR (n c j : Nat) (x : Int) : Prop := match fkd (64 * c + j) with
  | 0 => R32 x
  | 1 => R64 x
  | _ => 0 ≤ x ∧ x < n
def objR (D : sD) (n : Nat) (h : HP) (H : Heap) (a c : Nat) : Prop := c < 12 ∧ t_OB (adr D a) (D.1 c) (nF c) (D.2.1 c) H (fun j => fV D h c a j) ∧ ∀ j, j < nF c → fR n c j (h a j)
def cellR (D : sD) (n : Nat) (h : HP) (H : Heap) (a : Nat) (k : Nat × Nat) : Prop :=
  (k.1 = 0 → H[adr D a]? = some (arrV (D.2.2.1 0) k.2 (fun j => .int (i32 (h a j)))) ∧ ∀ j : Nat, j < k.2 → R32 (h a j)) ∧
  (k.1 = 1 → H[adr D a]? = some (arrV (D.2.2.1 1) k.2 (fun j => .long (i64 (h a j)))) ∧ ∀ j : Nat, j < k.2 → R64 (h a j)) ∧
  (k.1 = 2 → H[adr D a]? = some (arrV (D.2.2.1 2) k.2 (fun j => .int (i32 (h a j)))) ∧ ∀ j : Nat, j < k.2 → h a j = 0 ∨ h a j = 1) ∧
  (k.1 = 3 ∨ k.1 = 4 ∨ k.1 = 6 → H[adr D a]? = some (arrV (D.2.2.1 k.1) k.2 (fun j => rv D (vr (h a j).toNat))) ∧ ∀ j : Nat, j < k.2 → 0 ≤ h a j ∧ h a j < n) ∧
  ∀ c, k.1 = 10 + c → objR D n h H a c
theorem rv_vr_kept {D : sD} {a : Nat} : rv D (vr a) = if a = 0 then .null else .ref (adr D a) := rfl
theorem cellR.kept {D : sD} {n n' : Nat} {h h' : HP} {H H' : Heap} {a : Nat} {k : Nat × Nat} (q : cellR D n h H a k) (hn : n ≤ n') (hh : h' a = h a) (hH : H'[adr D a]? = H[adr D a]?) : cellR D n' h' H' a k := by
  obtain ⟨q0, q1, q2, q3, q4⟩ := q
  unfold cellR
  rw [hh, hH]
  refine ⟨q0, q1, q2, fun e => ⟨(q3 e).1, fun j hj => ⟨((q3 e).2 j hj).1, by have := ((q3 e).2 j hj).2; omega⟩⟩, fun c e => ?_⟩
  obtain ⟨g1, g2, g3⟩ := q4 c e
  refine ⟨g1, ?_, fun j hj => ?_⟩
  · have g4 := g2.kept hH
    unfold fV
    unfold fV at g4
    rw [hh]
    exact g4
  · have g5 := g3 j hj
    unfold fR at g5 ⊢
    rw [hh]
    split at g5
    · exact g5
    · exact g5
    · exact ⟨g5.1, by have := g5.2; omega⟩
def statR (D : sD) (h : HP) (H : Heap) (a n : Nat) : Prop := ∃ cell : Cell, H[D.2.2.2.2 a]? = some cell ∧ cell.slots.size = n ∧ ∀ j : Nat, j < n → cell.slots[j]? = some (.int (i32 (h a j))) ∧ R32 (h a j)
def tot (sh : SH) : Nat := (sh.map (·.2)).sum
def CW (D : sD) (sh : SH) (h : HP) (H : Heap) : Prop :=
  (6 ≤ sh.length ∧ H.size = D.2.2.2.1 + (sh.length - 6)) ∧
  (∀ a, 6 ≤ a → a < sh.length → (kd sh a).1 ≠ 5 ∧ cellR D sh.length h H a (kd sh a)) ∧
  ((∀ a, 1 ≤ a → a < 6 → ((kd sh a).1 = 5 ∧ (kd sh a).2 < 2147483648) ∧ D.2.2.2.2 a < D.2.2.2.1 ∧ statR D h H a (kd sh a).2) ∧ (kd sh 0).1 = 99)
theorem adr_ge {D : sD} {a : Nat} (h : 6 ≤ a) : adr D a = D.2.2.2.1 + (a - 6) := if_neg (by omega)
theorem adr_lt {D : sD} {a : Nat} (h : a < 6) : adr D a = D.2.2.2.2 a := if_pos h
theorem kd_app {sh x : SH} {a : Nat} (h : a < sh.length) : kd (sh ++ x) a = kd sh a := by
  unfold kd
  rw [List.getD_eq_getElem?_getD, List.getD_eq_getElem?_getD, List.getElem?_append_left h]
theorem kd_out {sh : SH} {a : Nat} (h : sh.length ≤ a) : kd sh a = (99, 0) := by
  unfold kd
  rw [List.getD_eq_getElem?_getD, List.getElem?_eq_none h]
  rfl
/-- one of our cells has changed -/
theorem CW.upd {D : sD} {sh : SH} {h h' : HP} {H H' : Heap} (W : CW D sh h H) {a : Nat} (h6 : 6 ≤ a) (hz : H'.size = H.size) (oq : ∀ q : Nat, q ≠ adr D a → H'[q]? = H[q]?) (hh : ∀ b, b ≠ a → h' b = h b) (hc : a < sh.length → cellR D sh.length h' H' a (kd sh a)) : CW D sh h' H' := by
  obtain ⟨⟨w0, w1⟩, w2, w3, w4⟩ := W
  refine ⟨⟨w0, hz.trans w1⟩, fun b h1 h2 => ?_, fun b h1 h2 => ?_, w4⟩
  · by_cases e : b = a
    · subst e
      exact ⟨(w2 b h1 h2).1, hc h2⟩
    · refine ⟨(w2 b h1 h2).1, (w2 b h1 h2).2.kept (Nat.le_refl _) (hh b e) (oq _ ?_)⟩
      rw [adr_ge h1, adr_ge h6]
      omega
  · obtain ⟨g1, g2, cell, g3, g4, g5⟩ := w3 b h1 h2
    refine ⟨g1, g2, cell, by rw [oq _ (by rw [adr_ge h6]; omega)]; exact g3, g4, fun j hj => ?_⟩
    rw [hh b (by omega)]
    exact g5 j hj
/-- a cell of its kind has a number -/
theorem CW.num {D : sD} {sh : SH} {h : HP} {H : Heap} (W : CW D sh h H) {a : Nat} (hk : (kd sh a).1 ≠ 99) (h5 : (kd sh a).1 ≠ 5) : 6 ≤ a ∧ a < sh.length := by
  have h1 : a < sh.length := by
    refine Nat.not_le.mp fun q => hk ?_
    rw [kd_out q]
  refine ⟨Nat.not_lt.mp fun q => ?_, h1⟩
  rcases Nat.eq_zero_or_pos a with e | e
  · subst e
    exact hk W.2.2.2
  · exact h5 ((W.2.2.1 a e q).1).1
theorem CW.cell {D : sD} {sh : SH} {h : HP} {H : Heap} (W : CW D sh h H) {a : Nat} (hk : (kd sh a).1 ≠ 99) (h5 : (kd sh a).1 ≠ 5) : cellR D sh.length h H a (kd sh a) := by
  obtain ⟨h1, h2⟩ := W.num hk h5
  exact (W.2.1 a h1 h2).2
/-- a cell more -/
theorem CW.add {D : sD} {sh : SH} {h h' : HP} {H H' : Heap} (W : CW D sh h H) {k : Nat × Nat} (hz : H'.size = H.size + 1) (oq : ∀ q : Nat, q < H.size → H'[q]? = H[q]?) (hh : ∀ b, b < sh.length → h' b = h b) (h5 : k.1 ≠ 5) (hc : cellR D (sh.length + 1) h' H' sh.length k) : CW D (sh ++ [k]) h' H' := by
  obtain ⟨⟨w0, w1⟩, w2, w3, w4⟩ := W
  have hl : (sh ++ [k]).length = sh.length + 1 := by simp
  have hk : kd (sh ++ [k]) sh.length = k := by
    unfold kd
    rw [List.getD_eq_getElem?_getD, List.getElem?_append_right (Nat.le_refl _), Nat.sub_self]
    rfl
  refine ⟨⟨by omega, by rw [hz, w1, hl]; omega⟩, fun b h1 h2 => ?_, fun b h1 h2 => ?_, by rw [kd_app (by omega)]; exact w4⟩
  · rw [hl] at h2 ⊢
    by_cases e : b = sh.length
    · subst e
      rw [hk]
      exact ⟨h5, hc⟩
    · have hb : b < sh.length := by omega
      rw [kd_app hb]
      refine ⟨(w2 b h1 hb).1, (w2 b h1 hb).2.kept (Nat.le_succ _) (hh b hb) (oq _ ?_)⟩
      rw [adr_ge h1, w1]
      omega
  · rw [kd_app (by omega)]
    obtain ⟨g1, g2, cell, g3, g4, g5⟩ := w3 b h1 h2
    refine ⟨g1, g2, cell, by rw [oq _ (by rw [w1]; omega)]; exact g3, g4, fun j hj => ?_⟩
    rw [hh b (by omega)]
    exact g5 j hj
def tyA (t : Nat) : FieldType := match t with
  | 0 => .int
  | 1 => .long
  | 2 => .boolean
  | 3 => .object "WarnLines$RuleText"
  | 4 => .array .int
  | _ => .object "WarnLines$Sheet"
def nestL : List (String × Nat × MethodName) := lks.filterMap fun q => match q.2.2.1 with
  | 3 => some (cn q.1, q.2.1, ym q.2.2.2.1)
  | _ => none
/-- a row class of rows of ints has been made -/
def vx_AO (U : State) : Prop := (Cond.arrayOver (.array .int)).before #[] U = true
theorem vx_AO_spec {args : Array Value} {s : State} (h : (Cond.arrayOver (.array .int)).before args s = true) :
    ∃ comp c k, s.vm.findClass (FieldType.array .int).toString = some comp ∧ (s.vm.classes.findIdx? fun x => match x.kind with | .array component _ => component == comp | _ => false) = some c ∧ s.vm.classes[c]? = some k ∧ k.kind = .array comp (.array .int) ∧
      s.vm.findClass ("[" ++ (FieldType.array .int).toString) = some c := by
  simp only [Cond.before, Cond.holds, Cond.value, beq_iff_eq] at h
  cases hc : s.vm.findClass (FieldType.array .int).toString with
  | none => simp [hc] at h
  | some comp =>
    simp only [hc, Option.bind_some, Option.bind_eq_some_iff, Option.map_eq_some_iff] at h
    obtain ⟨c, hi, k, hk, hb⟩ := h
    obtain ⟨hlt, hp, -⟩ := Array.findIdx?_eq_some_iff_getElem.mp hi
    have hkk : s.vm.classes[c] = k := (Array.getElem?_eq_some_iff.mp hk).2
    rw [hkk] at hp
    cases hkind : k.kind with
    | array component ty =>
      rw [hkind] at hb hp
      simp at hb hp
      exact ⟨comp, c, k, rfl, hi, hk, by rw [hkind, hp, hb.1], hb.2⟩
    | _ => rw [hkind] at hb; simp at hb
theorem vx_AO.moved {u U : State} (hvm : u.vm.Alike U.vm) (h : vx_AO u) : vx_AO U := by
  obtain ⟨comp, c, k, h1, h2, h3, h4, h5⟩ := vx_AO_spec h
  obtain ⟨k', hk', he⟩ := hvm.2.2 _ _ h3
  have hi : (U.vm.classes.findIdx? fun (x : Class) => match x.kind with | .array component _ => component == comp | _ => false) = some c := by
    refine (va_idx_bare U.vm comp).symm.trans (Eq.trans ?_ ((va_idx_bare u.vm comp).trans h2))
    first | rw [hvm.bare_eq] | rw [← hvm.bare_eq]
  have hkind : k'.kind = .array comp (.array .int) := by rw [he]; exact h4
  have f1 : U.vm.findClass (FieldType.array .int).toString = some comp := by rw [hvm.findClass]; exact h1
  have f2 : U.vm.findClass ("[" ++ (FieldType.array .int).toString) = some c := by rw [hvm.findClass]; exact h5
  unfold vx_AO Cond.before Cond.holds
  simp only [Cond.value]
  rw [f1, Option.bind_some]
  refine (congrArg (fun o : Option Nat => (o.bind (fun c => (U.vm.classes[c]?).map fun (k : Class) => match k.kind with | .array _ ty => decide (ty = FieldType.array .int) && decide (U.vm.findClass ("[" ++ (FieldType.array .int).toString) = some c) | _ => false) == some true)) hi).trans ?_
  simp [hk', hkind, f2]
def vx_Cs (U : State) : Prop := ∃ c t : ClassId, U.vm.findClass "[I" = some c ∧ U.vm.findClass "java/lang/Cloneable" = some t ∧ U.vm.assignable c t = true
theorem vx_Cs.moved {u U : State} (hvm : u.vm.Alike U.vm) (h : vx_Cs u) : vx_Cs U := by
  obtain ⟨c, t, h1, h2, h3⟩ := h
  exact ⟨c, t, by rw [hvm.findClass]; exact h1, by rw [hvm.findClass]; exact h2, by rw [hvm.assignable]; exact h3⟩
/-- what the tables say, and the given rows -/
def KT (D : sD) (s : State) : Prop :=
  (∀ c, c < 12 → u_Kn s (cn c) (fT c) (nF c) (D.1 c) (D.2.1 c)) ∧
  (∀ t, t < 7 → t ≠ 5 → ArrOfT s (D.2.2.1 t) (tyA t) ∧ va_RA s (D.2.2.1 t) (tyA t)) ∧
  (∀ j, 1 ≤ j → j < 5 → va_Z (stC j) (stN j) "[I" (.ref (D.2.2.2.2 j)) (fun q => D.2.2.2.1 ≤ q) s s.heap) ∧
  (∀ a, 1 ≤ a → a < 6 → ∃ cell : Cell, s.heap[D.2.2.2.2 a]? = some cell ∧ s.isArrayOf cell .int ∧ cell.vm ≠ .unknown ∧ (a < 5 → cell.vm.isStatics = false ∧ s.vm.findClass "[I" = some cell.cls)) ∧
  (∀ q ∈ nestL, va_Nw (.methodLinkNest q.1 q.2.1 q.2.2 "WarnLines") s) ∧
  (vx_Cs s ∧ va_AO "WarnLines$RuleText" s ∧ va_AO "WarnLines$Sheet" s ∧ vx_AO s) ∧
  D.2.2.2.1 ≤ s.heap.size
theorem KT.moved {D : sD} {u U : State} (hvm : u.vm.Alike U.vm) (hn : ∀ w ∈ nestL, va_Nw (.methodLinkNest w.1 w.2.1 w.2.2 "WarnLines") U) (hz : D.2.2.2.1 ≤ U.heap.size) (hq : ∀ q : Nat, q < D.2.2.2.1 → U.heap[q]? = u.heap[q]?) (hs : ∀ a, 1 ≤ a → a < 6 → D.2.2.2.2 a < D.2.2.2.1) (h : KT D u) : KT D U := by
  obtain ⟨k1, k2, k3, k4, k5, ⟨k6, k7, k8, k9⟩, k10⟩ := h
  refine ⟨fun c hc => u_Kn_moved hvm (k1 c hc), fun t ht h5 => ⟨arrOfT_moved hvm (k2 t ht h5).1, (k2 t ht h5).2.moved hvm⟩, fun j h1 h2 => ?_, fun a h1 h2 => ?_, hn, ⟨k6.moved hvm, k7.moved hvm, k8.moved hvm, k9.moved hvm⟩, hz⟩
  · refine (va_Z.moved hvm (k3 j h1 h2)).kept fun q _ h => hq q (Nat.not_le.mp h)
  · obtain ⟨cell, e1, e2, e3, e4⟩ := k4 a h1 h2
    exact ⟨cell, by rw [hq _ (hs a h1 h2)]; exact e1, State.isArrayOf_alike hvm e2, e3, fun h5 => ⟨(e4 h5).1, by rw [hvm.findClass]; exact (e4 h5).2⟩⟩
