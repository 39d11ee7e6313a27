-- ===== the class: which rules a group warns by =====
theorem rdN_ok {w : Int → Int} {len : Int} : ∀ (k r : Nat), 0 ≤ pos w r → rdN w len k (pos w r) ≤ k ∧ ∀ i : Nat, r ≤ i → i < r + rdN w len k (pos w r) → flt w (pos w i) = -1 ∧ 0 ≤ pos w i
  | 0, r, _ => ⟨Nat.le_refl _, fun i a c => absurd c (by show ¬ i < r + 0; omega)⟩
  | k + 1, r, h => by
    have e : rdN w len (k + 1) (pos w r) = if flt w (pos w r) ≠ -1 then 0 else if eR w (pos w r) = len then 1 else if w (eR w (pos w r)) ≠ 59 then 1 else rdN w len k (pos w (r + 1)) + 1 := rfl
    rw [e]
    by_cases c : flt w (pos w r) = -1
    · rw [if_neg (fun q => q c)]
      have one : ∀ i : Nat, r ≤ i → i < r + 1 → flt w (pos w i) = -1 ∧ 0 ≤ pos w i := by
        intro i a d
        rw [show i = r by omega]; exact ⟨c, h⟩
      by_cases c2 : eR w (pos w r) = len
      · rw [if_pos c2]; exact ⟨by omega, one⟩
      · rw [if_neg c2]
        by_cases c3 : w (eR w (pos w r)) ≠ 59
        · rw [if_pos c3]; exact ⟨by omega, one⟩
        · rw [if_neg c3]
          have fo := flt_ok h c
          have ih := rdN_ok (w := w) (len := len) k (r + 1) (show 0 ≤ eR w (pos w r) + 1 by omega)
          refine ⟨by omega, fun i a d => ?_⟩
          by_cases q : i = r
          · rw [q]; exact ⟨c, h⟩
          · exact ih.2 i (by omega) (by omega)
    · rw [if_pos c]
      exact ⟨Nat.zero_le _, fun i a d => absurd d (by omega)⟩
/-- n rules without a fault -/
def Rok (w : Int → Int) (n : Nat) : Prop := n ≤ 8 ∧ ∀ i : Nat, i < n → flt w (pos w i) = -1 ∧ 0 ≤ pos w i
theorem NRu_ok {w : Int → Int} {len : Int} : Rok w (NRu w len) := by
  unfold NRu
  split
  · exact ⟨Nat.zero_le _, fun i hi => absurd hi (Nat.not_lt_zero i)⟩
  · have := rdN_ok (w := w) (len := len) 8 0 (Int.le_refl 0)
    have e : pos w 0 = 0 := rfl
    rw [e] at this
    exact ⟨this.1, fun i hi => this.2 i (Nat.zero_le _) (by omega)⟩
theorem sho_le {w : Int → Int} {c x : Int} (hx : x < 99) : ∀ n : Nat, sho w c n ≤ x ↔ ∃ i : Nat, i < n ∧ w (pos w i) = c ∧ kR w (pos w i) ≤ x
  | 0 => ⟨fun q => absurd (show (99 : Int) ≤ x from q) (by omega), fun ⟨i, hi, _⟩ => absurd hi (Nat.not_lt_zero i)⟩
  | n + 1 => by
    have ih := sho_le (w := w) (c := c) hx n
    have e : sho w c (n + 1) = if w (pos w n) = c ∧ kR w (pos w n) < sho w c n then kR w (pos w n) else sho w c n := rfl
    rw [e]
    constructor
    · intro q
      by_cases d : w (pos w n) = c ∧ kR w (pos w n) < sho w c n
      · rw [if_pos d] at q; exact ⟨n, by omega, d.1, q⟩
      · rw [if_neg d] at q
        obtain ⟨i, a1, a2⟩ := ih.mp q
        exact ⟨i, by omega, a2⟩
    · rintro ⟨i, a1, a2, a3⟩
      by_cases d : w (pos w n) = c ∧ kR w (pos w n) < sho w c n
      · rw [if_pos d]
        by_cases q : i = n
        · rw [← q]; exact a3
        · have := ih.mpr ⟨i, by omega, a2, a3⟩
          omega
      · rw [if_neg d]
        by_cases q : i = n
        · rw [q] at a2 a3
          have : ¬ kR w (pos w n) < sho w c n := fun z => d ⟨a2, z⟩
          omega
        · exact ih.mpr ⟨i, by omega, a2, a3⟩
theorem bys_n0 {F : Int → Bool} : ∀ n : Nat, bys F n ≠ 0 ↔ ∃ i : Nat, i < n ∧ F i = true
  | 0 => ⟨fun q => absurd rfl q, fun ⟨i, hi, _⟩ => absurd hi (Nat.not_lt_zero i)⟩
  | n + 1 => by
    have ih := bys_n0 (F := F) n
    have b0 := bys_0 (F := F) (n + 1)
    constructor
    · intro q
      cases hF : F n
      · rw [bys_skip hF] at q
        obtain ⟨i, a1, a2⟩ := ih.mp q
        exact ⟨i, by omega, a2⟩
      · exact ⟨n, by omega, hF⟩
    · rintro ⟨i, a1, a2⟩ q
      have z : su (ind F) (n + 1) = 0 := b0.mp q
      have s0 := su_nn (f := ind F) (n := n) (fun i _ => ind_r.1)
      have z2 : su (ind F) n + ind F n = 0 := z
      have r := ind_r (F := F) (g := n)
      by_cases e : i = n
      · have : ind F n = 1 := if_pos (by rw [← e]; exact a2)
        omega
      · have : su (ind F) n = 0 := by omega
        exact (ih.mpr ⟨i, by omega, a2⟩) ((bys_0 n).mpr this)
theorem wdt_ge {w : Int → Int} {i : Nat} : ∀ n : Nat, i < n → w (pos w i) = 122 → nR w (pos w i) ≤ wdt w n
  | 0, h, _ => absurd h (Nat.not_lt_zero i)
  | n + 1, h, hz => by
    have e : wdt w (n + 1) = if w (pos w n) = 122 ∧ wdt w n < nR w (pos w n) then nR w (pos w n) else wdt w n := rfl
    rw [e]
    by_cases q : i = n
    · rw [q] at hz ⊢
      by_cases d : wdt w n < nR w (pos w n)
      · rw [if_pos ⟨hz, d⟩]; omega
      · rw [if_neg (fun c => d c.2)]; omega
    · have ih := wdt_ge (w := w) (i := i) n (by omega) hz
      split <;> omega
theorem wdt_le {w : Int → Int} : ∀ n : Nat, (∀ i : Nat, i < n → w (pos w i) = 122 → nR w (pos w i) ≤ 5) → 0 ≤ wdt w n ∧ wdt w n ≤ 5
  | 0, _ => by show (0 : Int) ≤ 0 ∧ (0 : Int) ≤ 5; omega
  | n + 1, H => by
    have ih := wdt_le (w := w) n (fun i hi => H i (by omega))
    have e : wdt w (n + 1) = if w (pos w n) = 122 ∧ wdt w n < nR w (pos w n) then nR w (pos w n) else wdt w n := rfl
    rw [e]
    split
    · have := H n (by omega) (by omega); omega
    · exact ih
/-- the count of one side of rule i behind d groups -/
def cnt (w : Int → Int) (n : Nat) (U : Int → Int → Bool) (l : List Int) (p d i : Nat) : Nat := gst w n i + (if i < n ∧ w (pos w i) = 122 then (zcu (U (zR w (pos w i))) l p (min d (nR w (pos w i)).toNat)).toNat else 0)
/-- which rules of z are reached, in the highest bits -/
def RB (w : Int → Int) (n : Nat) (s : Int → Int) (l : List Int) (p : Nat) : Nat := pkH (fun i => if i < n ∧ w (pos w i) = 122 ∧ (kR w (pos w i) ≤ zcu (upB s (zR w (pos w i))) l p (nR w (pos w i)).toNat ∨ kR w (pos w i) ≤ zcu (dnB s (zR w (pos w i))) l p (nR w (pos w i)).toNat) then 128 else 0) 8
theorem RB_lt {w : Int → Int} {n : Nat} {s : Int → Int} {l : List Int} {p : Nat} : RB w n s l p < 2 ^ 64 := by
  have := pkH_lt (g := fun i => if i < n ∧ w (pos w i) = 122 ∧ (kR w (pos w i) ≤ zcu (upB s (zR w (pos w i))) l p (nR w (pos w i)).toNat ∨ kR w (pos w i) ≤ zcu (dnB s (zR w (pos w i))) l p (nR w (pos w i)).toNat) then 128 else 0) (fun i => by
    show (if _ then _ else _) < 256
    split <;> omega) 8
  exact this
/-- what a rule of z is -/
theorem rok_z {w : Int → Int} {n i : Nat} (R : Rok w n) (hi : i < n) (hz : w (pos w i) = 122) : 1 ≤ kR w (pos w i) ∧ kR w (pos w i) ≤ nR w (pos w i) ∧ nR w (pos w i) ≤ 5 ∧ 0 ≤ zR w (pos w i) ∧ zR w (pos w i) ≤ 3 := by
  have o := R.2 i hi
  have := flt_ok o.2 o.1
  omega
theorem cnt_lt {w : Int → Int} {n : Nat} (R : Rok w n) {U : Int → Int → Bool} {l : List Int} {p d i : Nat} : cnt w n U l p d i < 256 := by
  unfold cnt
  by_cases c : i < n ∧ w (pos w i) = 122
  · have z := rok_z R c.1 c.2
    have r := zcu_r (U := U (zR w (pos w i))) (l := l) (p := p) (min d (nR w (pos w i)).toNat)
    have m : min d (nR w (pos w i)).toNat ≤ 5 := by omega
    rw [if_pos c, show gst w n i = (128 - kR w (pos w i)).toNat from if_pos c]
    omega
  · rw [if_neg c, show gst w n i = 0 from if_neg c]
    omega
theorem fin_RB {w : Int → Int} {n : Nat} (R : Rok w n) {s : Int → Int} {l : List Int} {p d : Nat} (hd : wdt w n ≤ d ∨ p + 1 ≤ d) : (i64 ((i64 (lg (pkH (cnt w n (upB s) l p d) 8)) ||| i64 (lg (pkH (cnt w n (dnB s) l p d) 8))).toInt) &&& i64 (-9187201950435737472)).toInt = lg (RB w n s l p) := by
  have eh : (-9187201950435737472 : Int) = lg (pkH (fun _ => 128) 8) := by decide +kernel
  rw [lg_or, pkH_or (fun i => cnt_lt R) (fun i => cnt_lt R), eh, lg_and, pkH_and (fun i => Nat.or_lt_two_pow (n := 8) (cnt_lt R) (cnt_lt R)) (fun _ => by omega)]
  refine congrArg lg (pkH_cg fun i hi => ?_)
  have o := or128 (cnt w n (upB s) l p d i) (cnt_lt R) (cnt w n (dnB s) l p d i) (cnt_lt R)
  have a128 : ∀ x : Nat, x &&& 128 = 0 ∨ x &&& 128 = 128 := by
    intro x
    have e : x &&& 128 = x % 256 &&& 128 := and_low (i := 8) (by decide)
    rw [e]
    have h : ∀ y : Nat, y < 256 → y &&& 128 = 0 ∨ y &&& 128 = 128 := by decide +kernel
    exact h _ (Nat.mod_lt _ (by decide))
  have hc : ∀ U : Int → Int → Bool, (128 ≤ cnt w n U l p d i ↔ i < n ∧ w (pos w i) = 122 ∧ kR w (pos w i) ≤ zcu (U (zR w (pos w i))) l p (nR w (pos w i)).toNat) := by
    intro U
    unfold cnt
    by_cases c : i < n ∧ w (pos w i) = 122
    · have z := rok_z R c.1 c.2
      have r := zcu_r (U := U (zR w (pos w i))) (l := l) (p := p) (nR w (pos w i)).toNat
      have em : zcu (U (zR w (pos w i))) l p (min d (nR w (pos w i)).toNat) = zcu (U (zR w (pos w i))) l p (nR w (pos w i)).toNat := by
        have g := wdt_ge n c.1 c.2
        by_cases q : (nR w (pos w i)).toNat ≤ d
        · rw [Nat.min_eq_right q]
        · have hd : p + 1 ≤ d := by omega
          rw [Nat.min_eq_left (by omega)]
          exact (zcu_ext (by omega) (by omega)).symm
      rw [if_pos c, show gst w n i = (128 - kR w (pos w i)).toNat from if_pos c, em]
      constructor
      · intro q; exact ⟨c.1, c.2, by omega⟩
      · intro q; omega
    · rw [if_neg c, show gst w n i = 0 from if_neg c]
      constructor
      · intro q; omega
      · intro q; exact absurd ⟨q.1, q.2.1⟩ c
  have hu := hc (upB s)
  have hd2 := hc (dnB s)
  by_cases c : i < n ∧ w (pos w i) = 122 ∧ (kR w (pos w i) ≤ zcu (upB s (zR w (pos w i))) l p (nR w (pos w i)).toNat ∨ kR w (pos w i) ≤ zcu (dnB s (zR w (pos w i))) l p (nR w (pos w i)).toNat)
  · show _ = (if _ then _ else _)
    rw [if_pos c]
    have : 128 ≤ cnt w n (upB s) l p d i ∨ 128 ≤ cnt w n (dnB s) l p d i := by
      rcases c.2.2 with q | q
      · exact .inl (hu.mpr ⟨c.1, c.2.1, q⟩)
      · exact .inr (hd2.mpr ⟨c.1, c.2.1, q⟩)
    rcases a128 (cnt w n (upB s) l p d i ||| cnt w n (dnB s) l p d i) with q | q
    · have := o.mp q; omega
    · exact q
  · show _ = (if _ then _ else _)
    rw [if_neg c]
    refine o.mpr ⟨?_, ?_⟩
    · refine Nat.not_le.mp fun q => ?_
      have := hu.mp q
      exact c ⟨this.1, this.2.1, .inl this.2.2⟩
    · refine Nat.not_le.mp fun q => ?_
      have := hd2.mp q
      exact c ⟨this.1, this.2.1, .inr this.2.2⟩
theorem cnt_up {w : Int → Int} {n : Nat} (R : Rok w n) {s : Int → Int} {l : List Int} {p d : Nat} (hd : d ≤ p) (hs : 0 ≤ s (l.getD (p - d) 0)) : w64 (lg (pkH (cnt w n (upB s) l p d) 8) + (i64 (lg (pkH (gab w n (s (l.getD (p - d) 0)).toNat) 8)) &&& i64 (lg (pkH (gsl w n d) 8))).toInt) = lg (pkH (cnt w n (upB s) l p (d + 1)) 8) := by
  rw [lg_and, pkH_and gab_lt gsl_lt, lg_add, pkH_add]
  refine congrArg lg (pkH_cg fun i _ => ?_)
  show cnt w n (upB s) l p d i + (gab w n (s (l.getD (p - d) 0)).toNat i &&& gsl w n d i) = cnt w n (upB s) l p (d + 1) i
  generalize hsg : s (l.getD (p - d) 0) = sv at *
  unfold cnt
  by_cases c : i < n ∧ w (pos w i) = 122
  · rw [if_pos c, if_pos c]
    have z := rok_z R c.1 c.2
    by_cases q : (d : Int) < nR w (pos w i)
    · have g1 : gsl w n d i = 255 := if_pos ⟨c.1, c.2, q⟩
      have m1 : min d (nR w (pos w i)).toNat = d := Nat.min_eq_left (by omega)
      have m2 : min (d + 1) (nR w (pos w i)).toNat = d + 1 := Nat.min_eq_left (by omega)
      have e : zcu (upB s (zR w (pos w i))) l p (d + 1) = zcu (upB s (zR w (pos w i))) l p d + (if d ≤ p ∧ upB s (zR w (pos w i)) (l.getD (p - d) 0) = true then 1 else 0) := rfl
      have r := zcu_r (U := upB s (zR w (pos w i))) (l := l) (p := p) d
      rw [g1, m1, m2, e]
      by_cases q2 : 4 ≤ sv ∧ sv ≤ 7 ∧ zR w (pos w i) ≤ sv - 4
      · have u : upB s (zR w (pos w i)) (l.getD (p - d) 0) = true := decide_eq_true (by rw [hsg]; exact q2)
        have g2 : gab w n sv.toNat i = 1 := if_pos ⟨c.1, c.2, by omega, by omega, by omega⟩
        rw [g2, if_pos ⟨hd, u⟩]
        show _ + _ + 1 = _
        omega
      · have u : upB s (zR w (pos w i)) (l.getD (p - d) 0) = false := decide_eq_false (by rw [hsg]; exact q2)
        have g2 : gab w n sv.toNat i = 0 := if_neg (by omega)
        rw [g2, if_neg (fun c => by rw [u] at c; exact absurd c.2 (by decide)), Nat.zero_and, Int.add_zero]
        omega
    · have g1 : gsl w n d i = 0 := if_neg (fun c => q c.2.2)
      have m1 : min d (nR w (pos w i)).toNat = (nR w (pos w i)).toNat := Nat.min_eq_right (by omega)
      have m2 : min (d + 1) (nR w (pos w i)).toNat = (nR w (pos w i)).toNat := Nat.min_eq_right (by omega)
      rw [g1, m1, m2, Nat.and_zero]
      omega
  · rw [if_neg c, if_neg c, show gsl w n d i = 0 from if_neg (fun q => c ⟨q.1, q.2.1⟩), Nat.and_zero]
theorem cnt_dn {w : Int → Int} {n : Nat} (R : Rok w n) {s : Int → Int} {l : List Int} {p d : Nat} (hd : d ≤ p) (hs : 0 ≤ s (l.getD (p - d) 0)) : w64 (lg (pkH (cnt w n (dnB s) l p d) 8) + (i64 (lg (pkH (gbl w n (s (l.getD (p - d) 0)).toNat) 8)) &&& i64 (lg (pkH (gsl w n d) 8))).toInt) = lg (pkH (cnt w n (dnB s) l p (d + 1)) 8) := by
  rw [lg_and, pkH_and gbl_lt gsl_lt, lg_add, pkH_add]
  refine congrArg lg (pkH_cg fun i _ => ?_)
  show cnt w n (dnB s) l p d i + (gbl w n (s (l.getD (p - d) 0)).toNat i &&& gsl w n d i) = cnt w n (dnB s) l p (d + 1) i
  generalize hsg : s (l.getD (p - d) 0) = sv at *
  unfold cnt
  by_cases c : i < n ∧ w (pos w i) = 122
  · rw [if_pos c, if_pos c]
    have z := rok_z R c.1 c.2
    by_cases q : (d : Int) < nR w (pos w i)
    · have g1 : gsl w n d i = 255 := if_pos ⟨c.1, c.2, q⟩
      have m1 : min d (nR w (pos w i)).toNat = d := Nat.min_eq_left (by omega)
      have m2 : min (d + 1) (nR w (pos w i)).toNat = d + 1 := Nat.min_eq_left (by omega)
      have e : zcu (dnB s (zR w (pos w i))) l p (d + 1) = zcu (dnB s (zR w (pos w i))) l p d + (if d ≤ p ∧ dnB s (zR w (pos w i)) (l.getD (p - d) 0) = true then 1 else 0) := rfl
      have r := zcu_r (U := dnB s (zR w (pos w i))) (l := l) (p := p) d
      rw [g1, m1, m2, e]
      by_cases q2 : sv ≤ 3 ∧ zR w (pos w i) ≤ 3 - sv
      · have u : dnB s (zR w (pos w i)) (l.getD (p - d) 0) = true := decide_eq_true (by rw [hsg]; exact q2)
        have g2 : gbl w n sv.toNat i = 1 := if_pos ⟨c.1, c.2, by omega, by omega⟩
        rw [g2, if_pos ⟨hd, u⟩]
        show _ + _ + 1 = _
        omega
      · have u : dnB s (zR w (pos w i)) (l.getD (p - d) 0) = false := decide_eq_false (by rw [hsg]; exact q2)
        have g2 : gbl w n sv.toNat i = 0 := if_neg (by omega)
        rw [g2, if_neg (fun c => by rw [u] at c; exact absurd c.2 (by decide)), Nat.zero_and, Int.add_zero]
        omega
    · have g1 : gsl w n d i = 0 := if_neg (fun c => q c.2.2)
      have m1 : min d (nR w (pos w i)).toNat = (nR w (pos w i)).toNat := Nat.min_eq_right (by omega)
      have m2 : min (d + 1) (nR w (pos w i)).toNat = (nR w (pos w i)).toNat := Nat.min_eq_right (by omega)
      rw [g1, m1, m2, Nat.and_zero]
      omega
  · rw [if_neg c, if_neg c, show gsl w n d i = 0 from if_neg (fun q => c ⟨q.1, q.2.1⟩), Nat.and_zero]
theorem cnt_0 {w : Int → Int} {n : Nat} {U : Int → Int → Bool} {l : List Int} {p : Nat} : pkH (cnt w n U l p 0) 8 = pkH (gst w n) 8 := by
  refine pkH_cg fun i _ => ?_
  unfold cnt
  rw [Nat.zero_min]
  show gst w n i + (if _ then Int.toNat 0 else 0) = _
  split <;> rfl
theorem RB_n0 {w : Int → Int} {n : Nat} (R : Rok w n) {m s : Int → Int} {l : List Int} {p : Nat} : RB w n s l p ≠ 0 ↔ ∃ i : Nat, i < n ∧ w (pos w i) = 122 ∧ RTa w m s l p (pos w i) = true := by
  have z := pkH_z (g := fun i => if i < n ∧ w (pos w i) = 122 ∧ (kR w (pos w i) ≤ zcu (upB s (zR w (pos w i))) l p (nR w (pos w i)).toNat ∨ kR w (pos w i) ≤ zcu (dnB s (zR w (pos w i))) l p (nR w (pos w i)).toNat) then 128 else 0) 8
  have rt : ∀ i : Nat, w (pos w i) = 122 → (RTa w m s l p (pos w i) = true ↔ kR w (pos w i) ≤ zcu (upB s (zR w (pos w i))) l p (nR w (pos w i)).toNat ∨ kR w (pos w i) ≤ zcu (dnB s (zR w (pos w i))) l p (nR w (pos w i)).toNat) := by
    intro i hz
    unfold RTa
    rw [if_pos hz, decide_eq_true_iff]
  constructor
  · intro q
    apply Classical.byContradiction
    intro c
    refine q (z.mpr fun i hi => if_neg fun d => c ⟨i, d.1, d.2.1, (rt i d.2.1).mpr d.2.2⟩)
  · rintro ⟨i, a1, a2, a3⟩ q
    have := z.mp q i (by have := R.1; omega)
    have e : (if i < n ∧ w (pos w i) = 122 ∧ (kR w (pos w i) ≤ zcu (upB s (zR w (pos w i))) l p (nR w (pos w i)).toNat ∨ kR w (pos w i) ≤ zcu (dnB s (zR w (pos w i))) l p (nR w (pos w i)).toNat) then 128 else 0) = 128 := if_pos ⟨a1, a2, (rt i a2).mp a3⟩
    have := e.symm.trans this
    omega
theorem RTa_nz {w : Int → Int} {m s : Int → Int} {l : List Int} {p : Nat} {a : Int} (h : w a ≠ 122) : RTa w m s l p a = true ↔ (w a = 114 ∧ kR w a ≤ swy (msq m l) p) ∨ (w a ≠ 114 ∧ kR w a ≤ owy (msq m l) p) := by
  unfold RTa
  rw [if_neg h]
  by_cases c : w a = 114
  · rw [if_pos c, decide_eq_true_iff]
    exact ⟨fun q => .inl ⟨c, q⟩, fun q => q.elim (fun q => q.2) (fun q => absurd c q.1)⟩
  · rw [if_neg c, decide_eq_true_iff]
    exact ⟨fun q => .inr ⟨c, q⟩, fun q => q.elim (fun q => absurd q.1 c) (fun q => q.2)⟩
section
variable {X : Nat × (Int → Int)}
theorem K246_49_37 {h : HP} {w : Int → Int} {n : Nat} {l : List Int} {m s : Int → Int} {p : Nat} (R : Rok w n) (z : ZR 49 h w n) (r : RowIs 37 h l m s) (hs : ∀ g, 0 ≤ s g ∧ s g ≤ 8) (hp : p < l.length) : Wp X 2 246 0 [vr 49, vr 37, vi p, vu, vu, vu, vu, vu, vu] [] h (fun v h' => v = some (vl (lg (RB w n s l p))) ∧ h' = h) := by
  have wl := wdt_le (w := w) n (fun i hi hz => (rok_z R hi hz).2.2.1)
  have hl := r.2.1
  have L : ∀ (k d : Nat) (z8 : aV), (d : Int) + k = wdt w n → d ≤ p + 1 → Wp X 2 246 14 [vr 49, vr 37, vi p, vl (lg (pkH (cnt w n (upB s) l p d) 8)), vu, vl (lg (pkH (cnt w n (dnB s) l p d) 8)), vu, vi d, z8] [] h (fun v h' => v = some (vl (lg (RB w n s l p))) ∧ h' = h) := by
    intro k
    induction k with
    | zero =>
      intro d z8 hd hdp
      exact S246_49_37_14 _ _ _ _ z8 ⟨fun _ => ⟨by rw [fin_RB R (.inl (by omega))], rfl⟩, fun q => absurd q (by rw [z.2.1]; omega)⟩
    | succ k ih =>
      intro d z8 hd hdp
      refine S246_49_37_14 _ _ _ _ z8 ⟨fun q => absurd q (by rw [z.2.1]; omega), fun _ => ⟨fun q => ⟨by rw [fin_RB R (.inr (by omega))], rfl⟩, fun q => ⟨by unfold R32; omega, fun q2 => absurd q2 (by omega), fun _ => ⟨fun q2 => absurd q2 (by rw [r.1]; omega), fun _ => ⟨⟨by omega, by omega⟩, ?_⟩⟩⟩⟩⟩
      have x : (p : Int) - d = ((p - d : Nat) : Int) := by omega
      have rr : h 40 ((p - d : Nat) : Int) = s (l.getD (p - d) 0) := (r.2.2 (p - d) (by omega)).2.2.1
      have sv := hs (l.getD (p - d) 0)
      rw [x, rr]
      refine ⟨fun q2 => absurd q2 (by omega), fun _ => ⟨fun q2 => absurd q2 (by omega), fun _ => ⟨fun q2 => absurd q2 (by omega), fun _ => ⟨fun q5 => ?_, fun q2 => absurd q2 (by omega)⟩⟩⟩⟩
      have zs := z.2.2.1 (s (l.getD (p - d) 0)).toNat (by omega)
      rw [show (((s (l.getD (p - d) 0)).toNat : Nat) : Int) = s (l.getD (p - d) 0) by omega] at zs
      have zd : h 52 (d : Int) = lg (pkH (gsl w n d) 8) := z.2.2.2 d (by omega)
      have zs1 : h 50 (s (l.getD (p - d) 0)) = lg (pkH (gab w n (s (l.getD (p - d) 0)).toNat) 8) := zs.1
      have zs2 : h 51 (s (l.getD (p - d) 0)) = lg (pkH (gbl w n (s (l.getD (p - d) 0)).toNat) 8) := zs.2
      rw [zs1, zs2, zd, cnt_up R (by omega) sv.1, cnt_dn R (by omega) sv.1]
      exact ih (d + 1) _ (by omega) (by omega)
  have g := L (wdt w n).toNat 0 vu (by omega) (by omega)
  rw [cnt_0, cnt_0, ← z.1] at g
  exact S246_49_37_0 _ g
theorem K208_45_37 {h : HP} {w : Int → Int} {n : Nat} {l : List Int} {m s : Int → Int} {p : Nat} (R : Rok w n) (ps : PS 45 h w n) (r : RowIs 37 h l m s) (hs : ∀ g, 0 ≤ s g ∧ s g ≤ 8) (hp : p < l.length) : Wp X 3 208 0 [vr 45, vr 37, vi p] [] h (fun v h' => v = some (vi (if bys (RTi w m s l p) n ≠ 0 then 1 else 0)) ∧ h' = h) := by
  have hl := r.2.1
  have rp := r.2.2 p hp
  have e5 : h 42 (p : Int) = swy (msq m l) p := rp.2.2.2.2.1
  have e6 : h 43 (p : Int) = owy (msq m l) p := rp.2.2.2.2.2
  have sr := swy_r (s := msq m l) p
  have b0 := bys_n0 (F := RTi w m s l p) n
  have sr7 := sho_le (w := w) (c := 114) (x := swy (msq m l) p) (by omega) n
  have sr8 := sho_le (w := w) (c := 97) (x := owy (msq m l) p) (by omega) n
  have rt : ∀ i : Nat, RTi w m s l p i = RTa w m s l p (pos w i) := fun i => rfl
  have yes : (∃ i : Nat, i < n ∧ RTa w m s l p (pos w i) = true) → (some (vi 1) = some (vi (if bys (RTi w m s l p) n ≠ 0 then 1 else 0)) ∧ h = h) := by
    rintro ⟨i, a1, a2⟩
    rw [if_pos (b0.mpr ⟨i, a1, a2⟩)]
    exact ⟨rfl, rfl⟩
  refine S208_45_37_0 _ ⟨fun q => absurd q (by omega), fun _ => ⟨fun q => absurd q (by rw [r.1]; omega), fun _ => ⟨⟨by omega, by omega⟩, ?_⟩⟩⟩
  rw [e5, e6, ps.2.1, ps.2.2.1]
  refine ⟨fun q => yes ?_, fun q7 => ⟨fun q => yes ?_, fun q8 => (K246_49_37 R ps.2.2.2 r hs hp).mono fun v h1 _ e => ?_⟩⟩
  · obtain ⟨i, a1, a2, a3⟩ := sr7.mp q
    exact ⟨i, a1, (RTa_nz (by omega)).mpr (.inl ⟨a2, a3⟩)⟩
  · obtain ⟨i, a1, a2, a3⟩ := sr8.mp q
    exact ⟨i, a1, (RTa_nz (by omega)).mpr (.inr ⟨by omega, a3⟩)⟩
  · obtain ⟨rfl, rfl⟩ := e
    have rb := RB_n0 R (m := m) (s := s) (l := l) (p := p)
    have lt := RB_lt (w := w) (n := n) (s := s) (l := l) (p := p)
    refine S208_45_37_33 _ _ _ _ ?_
    rw [lcp_e, lcp_n]
    refine ⟨fun q => ?_, fun q => yes ?_⟩
    · have z0 : RB w n s l p = 0 := lg_inj lt (by decide) (by rw [q]; rfl)
      have : bys (RTi w m s l p) n = 0 := by
        apply Classical.byContradiction
        intro c
        obtain ⟨i, a1, a2⟩ := b0.mp c
        rw [rt] at a2
        have o := R.2 i a1
        have fo := flt_ok o.2 o.1
        by_cases hz : w (pos w i) = 122
        · exact rb.mpr ⟨i, a1, hz, a2⟩ z0
        · rcases (RTa_nz hz).mp a2 with d | d
          · have := sr7.mpr ⟨i, a1, d⟩; omega
          · have := sr8.mpr ⟨i, a1, by omega, d.2⟩; omega
      rw [if_neg (fun c => c this)]
      exact ⟨rfl, rfl⟩
    · obtain ⟨i, a1, a2, a3⟩ := rb.mp (fun c => q (by rw [c]; rfl))
      exact ⟨i, a1, a3⟩
theorem K246_49_62 {h : HP} {w : Int → Int} {n : Nat} {l : List Int} {m s : Int → Int} {p : Nat} (R : Rok w n) (z : ZR 49 h w n) (r : RowIs 62 h l m s) (hs : ∀ g, 0 ≤ s g ∧ s g ≤ 8) (hp : p < l.length) : Wp X 2 246 0 [vr 49, vr 62, vi p, vu, vu, vu, vu, vu, vu] [] h (fun v h' => v = some (vl (lg (RB w n s l p))) ∧ h' = h) := by
  have wl := wdt_le (w := w) n (fun i hi hz => (rok_z R hi hz).2.2.1)
  have hl := r.2.1
  have L : ∀ (k d : Nat) (z8 : aV), (d : Int) + k = wdt w n → d ≤ p + 1 → Wp X 2 246 14 [vr 49, vr 62, vi p, vl (lg (pkH (cnt w n (upB s) l p d) 8)), vu, vl (lg (pkH (cnt w n (dnB s) l p d) 8)), vu, vi d, z8] [] h (fun v h' => v = some (vl (lg (RB w n s l p))) ∧ h' = h) := by
    intro k
    induction k with
    | zero =>
      intro d z8 hd hdp
      exact S246_49_62_14 _ _ _ _ z8 ⟨fun _ => ⟨by rw [fin_RB R (.inl (by omega))], rfl⟩, fun q => absurd q (by rw [z.2.1]; omega)⟩
    | succ k ih =>
      intro d z8 hd hdp
      refine S246_49_62_14 _ _ _ _ z8 ⟨fun q => absurd q (by rw [z.2.1]; omega), fun _ => ⟨fun q => ⟨by rw [fin_RB R (.inr (by omega))], rfl⟩, fun q => ⟨by unfold R32; omega, fun q2 => absurd q2 (by omega), fun _ => ⟨fun q2 => absurd q2 (by rw [r.1]; omega), fun _ => ⟨⟨by omega, by omega⟩, ?_⟩⟩⟩⟩⟩
      have x : (p : Int) - d = ((p - d : Nat) : Int) := by omega
      have rr : h 65 ((p - d : Nat) : Int) = s (l.getD (p - d) 0) := (r.2.2 (p - d) (by omega)).2.2.1
      have sv := hs (l.getD (p - d) 0)
      rw [x, rr]
      refine ⟨fun q2 => absurd q2 (by omega), fun _ => ⟨fun q2 => absurd q2 (by omega), fun _ => ⟨fun q2 => absurd q2 (by omega), fun _ => ⟨fun q5 => ?_, fun q2 => absurd q2 (by omega)⟩⟩⟩⟩
      have zs := z.2.2.1 (s (l.getD (p - d) 0)).toNat (by omega)
      rw [show (((s (l.getD (p - d) 0)).toNat : Nat) : Int) = s (l.getD (p - d) 0) by omega] at zs
      have zd : h 52 (d : Int) = lg (pkH (gsl w n d) 8) := z.2.2.2 d (by omega)
      have zs1 : h 50 (s (l.getD (p - d) 0)) = lg (pkH (gab w n (s (l.getD (p - d) 0)).toNat) 8) := zs.1
      have zs2 : h 51 (s (l.getD (p - d) 0)) = lg (pkH (gbl w n (s (l.getD (p - d) 0)).toNat) 8) := zs.2
      rw [zs1, zs2, zd, cnt_up R (by omega) sv.1, cnt_dn R (by omega) sv.1]
      exact ih (d + 1) _ (by omega) (by omega)
  have g := L (wdt w n).toNat 0 vu (by omega) (by omega)
  rw [cnt_0, cnt_0, ← z.1] at g
  exact S246_49_62_0 _ g
theorem K208_45_62 {h : HP} {w : Int → Int} {n : Nat} {l : List Int} {m s : Int → Int} {p : Nat} (R : Rok w n) (ps : PS 45 h w n) (r : RowIs 62 h l m s) (hs : ∀ g, 0 ≤ s g ∧ s g ≤ 8) (hp : p < l.length) : Wp X 3 208 0 [vr 45, vr 62, vi p] [] h (fun v h' => v = some (vi (if bys (RTi w m s l p) n ≠ 0 then 1 else 0)) ∧ h' = h) := by
  have hl := r.2.1
  have rp := r.2.2 p hp
  have e5 : h 67 (p : Int) = swy (msq m l) p := rp.2.2.2.2.1
  have e6 : h 68 (p : Int) = owy (msq m l) p := rp.2.2.2.2.2
  have sr := swy_r (s := msq m l) p
  have b0 := bys_n0 (F := RTi w m s l p) n
  have sr7 := sho_le (w := w) (c := 114) (x := swy (msq m l) p) (by omega) n
  have sr8 := sho_le (w := w) (c := 97) (x := owy (msq m l) p) (by omega) n
  have rt : ∀ i : Nat, RTi w m s l p i = RTa w m s l p (pos w i) := fun i => rfl
  have yes : (∃ i : Nat, i < n ∧ RTa w m s l p (pos w i) = true) → (some (vi 1) = some (vi (if bys (RTi w m s l p) n ≠ 0 then 1 else 0)) ∧ h = h) := by
    rintro ⟨i, a1, a2⟩
    rw [if_pos (b0.mpr ⟨i, a1, a2⟩)]
    exact ⟨rfl, rfl⟩
  refine S208_45_62_0 _ ⟨fun q => absurd q (by omega), fun _ => ⟨fun q => absurd q (by rw [r.1]; omega), fun _ => ⟨⟨by omega, by omega⟩, ?_⟩⟩⟩
  rw [e5, e6, ps.2.1, ps.2.2.1]
  refine ⟨fun q => yes ?_, fun q7 => ⟨fun q => yes ?_, fun q8 => (K246_49_62 R ps.2.2.2 r hs hp).mono fun v h1 _ e => ?_⟩⟩
  · obtain ⟨i, a1, a2, a3⟩ := sr7.mp q
    exact ⟨i, a1, (RTa_nz (by omega)).mpr (.inl ⟨a2, a3⟩)⟩
  · obtain ⟨i, a1, a2, a3⟩ := sr8.mp q
    exact ⟨i, a1, (RTa_nz (by omega)).mpr (.inr ⟨by omega, a3⟩)⟩
  · obtain ⟨rfl, rfl⟩ := e
    have rb := RB_n0 R (m := m) (s := s) (l := l) (p := p)
    have lt := RB_lt (w := w) (n := n) (s := s) (l := l) (p := p)
    refine S208_45_62_33 _ _ _ _ ?_
    rw [lcp_e, lcp_n]
    refine ⟨fun q => ?_, fun q => yes ?_⟩
    · have z0 : RB w n s l p = 0 := lg_inj lt (by decide) (by rw [q]; rfl)
      have : bys (RTi w m s l p) n = 0 := by
        apply Classical.byContradiction
        intro c
        obtain ⟨i, a1, a2⟩ := b0.mp c
        rw [rt] at a2
        have o := R.2 i a1
        have fo := flt_ok o.2 o.1
        by_cases hz : w (pos w i) = 122
        · exact rb.mpr ⟨i, a1, hz, a2⟩ z0
        · rcases (RTa_nz hz).mp a2 with d | d
          · have := sr7.mpr ⟨i, a1, d⟩; omega
          · have := sr8.mpr ⟨i, a1, by omega, d.2⟩; omega
      rw [if_neg (fun c => c this)]
      exact ⟨rfl, rfl⟩
    · obtain ⟨i, a1, a2, a3⟩ := rb.mp (fun c => q (by rw [c]; rfl))
      exact ⟨i, a1, a3⟩
theorem K246_57_37 {h : HP} {w : Int → Int} {n : Nat} {l : List Int} {m s : Int → Int} {p : Nat} (R : Rok w n) (z : ZR 57 h w n) (r : RowIs 37 h l m s) (hs : ∀ g, 0 ≤ s g ∧ s g ≤ 8) (hp : p < l.length) : Wp X 2 246 0 [vr 57, vr 37, vi p, vu, vu, vu, vu, vu, vu] [] h (fun v h' => v = some (vl (lg (RB w n s l p))) ∧ h' = h) := by
  have wl := wdt_le (w := w) n (fun i hi hz => (rok_z R hi hz).2.2.1)
  have hl := r.2.1
  have L : ∀ (k d : Nat) (z8 : aV), (d : Int) + k = wdt w n → d ≤ p + 1 → Wp X 2 246 14 [vr 57, vr 37, vi p, vl (lg (pkH (cnt w n (upB s) l p d) 8)), vu, vl (lg (pkH (cnt w n (dnB s) l p d) 8)), vu, vi d, z8] [] h (fun v h' => v = some (vl (lg (RB w n s l p))) ∧ h' = h) := by
    intro k
    induction k with
    | zero =>
      intro d z8 hd hdp
      exact S246_57_37_14 _ _ _ _ z8 ⟨fun _ => ⟨by rw [fin_RB R (.inl (by omega))], rfl⟩, fun q => absurd q (by rw [z.2.1]; omega)⟩
    | succ k ih =>
      intro d z8 hd hdp
      refine S246_57_37_14 _ _ _ _ z8 ⟨fun q => absurd q (by rw [z.2.1]; omega), fun _ => ⟨fun q => ⟨by rw [fin_RB R (.inr (by omega))], rfl⟩, fun q => ⟨by unfold R32; omega, fun q2 => absurd q2 (by omega), fun _ => ⟨fun q2 => absurd q2 (by rw [r.1]; omega), fun _ => ⟨⟨by omega, by omega⟩, ?_⟩⟩⟩⟩⟩
      have x : (p : Int) - d = ((p - d : Nat) : Int) := by omega
      have rr : h 40 ((p - d : Nat) : Int) = s (l.getD (p - d) 0) := (r.2.2 (p - d) (by omega)).2.2.1
      have sv := hs (l.getD (p - d) 0)
      rw [x, rr]
      refine ⟨fun q2 => absurd q2 (by omega), fun _ => ⟨fun q2 => absurd q2 (by omega), fun _ => ⟨fun q2 => absurd q2 (by omega), fun _ => ⟨fun q5 => ?_, fun q2 => absurd q2 (by omega)⟩⟩⟩⟩
      have zs := z.2.2.1 (s (l.getD (p - d) 0)).toNat (by omega)
      rw [show (((s (l.getD (p - d) 0)).toNat : Nat) : Int) = s (l.getD (p - d) 0) by omega] at zs
      have zd : h 60 (d : Int) = lg (pkH (gsl w n d) 8) := z.2.2.2 d (by omega)
      have zs1 : h 58 (s (l.getD (p - d) 0)) = lg (pkH (gab w n (s (l.getD (p - d) 0)).toNat) 8) := zs.1
      have zs2 : h 59 (s (l.getD (p - d) 0)) = lg (pkH (gbl w n (s (l.getD (p - d) 0)).toNat) 8) := zs.2
      rw [zs1, zs2, zd, cnt_up R (by omega) sv.1, cnt_dn R (by omega) sv.1]
      exact ih (d + 1) _ (by omega) (by omega)
  have g := L (wdt w n).toNat 0 vu (by omega) (by omega)
  rw [cnt_0, cnt_0, ← z.1] at g
  exact S246_57_37_0 _ g
theorem K208_53_37 {h : HP} {w : Int → Int} {n : Nat} {l : List Int} {m s : Int → Int} {p : Nat} (R : Rok w n) (ps : PS 53 h w n) (r : RowIs 37 h l m s) (hs : ∀ g, 0 ≤ s g ∧ s g ≤ 8) (hp : p < l.length) : Wp X 3 208 0 [vr 53, vr 37, vi p] [] h (fun v h' => v = some (vi (if bys (RTi w m s l p) n ≠ 0 then 1 else 0)) ∧ h' = h) := by
  have hl := r.2.1
  have rp := r.2.2 p hp
  have e5 : h 42 (p : Int) = swy (msq m l) p := rp.2.2.2.2.1
  have e6 : h 43 (p : Int) = owy (msq m l) p := rp.2.2.2.2.2
  have sr := swy_r (s := msq m l) p
  have b0 := bys_n0 (F := RTi w m s l p) n
  have sr7 := sho_le (w := w) (c := 114) (x := swy (msq m l) p) (by omega) n
  have sr8 := sho_le (w := w) (c := 97) (x := owy (msq m l) p) (by omega) n
  have rt : ∀ i : Nat, RTi w m s l p i = RTa w m s l p (pos w i) := fun i => rfl
  have yes : (∃ i : Nat, i < n ∧ RTa w m s l p (pos w i) = true) → (some (vi 1) = some (vi (if bys (RTi w m s l p) n ≠ 0 then 1 else 0)) ∧ h = h) := by
    rintro ⟨i, a1, a2⟩
    rw [if_pos (b0.mpr ⟨i, a1, a2⟩)]
    exact ⟨rfl, rfl⟩
  refine S208_53_37_0 _ ⟨fun q => absurd q (by omega), fun _ => ⟨fun q => absurd q (by rw [r.1]; omega), fun _ => ⟨⟨by omega, by omega⟩, ?_⟩⟩⟩
  rw [e5, e6, ps.2.1, ps.2.2.1]
  refine ⟨fun q => yes ?_, fun q7 => ⟨fun q => yes ?_, fun q8 => (K246_57_37 R ps.2.2.2 r hs hp).mono fun v h1 _ e => ?_⟩⟩
  · obtain ⟨i, a1, a2, a3⟩ := sr7.mp q
    exact ⟨i, a1, (RTa_nz (by omega)).mpr (.inl ⟨a2, a3⟩)⟩
  · obtain ⟨i, a1, a2, a3⟩ := sr8.mp q
    exact ⟨i, a1, (RTa_nz (by omega)).mpr (.inr ⟨by omega, a3⟩)⟩
  · obtain ⟨rfl, rfl⟩ := e
    have rb := RB_n0 R (m := m) (s := s) (l := l) (p := p)
    have lt := RB_lt (w := w) (n := n) (s := s) (l := l) (p := p)
    refine S208_53_37_33 _ _ _ _ ?_
    rw [lcp_e, lcp_n]
    refine ⟨fun q => ?_, fun q => yes ?_⟩
    · have z0 : RB w n s l p = 0 := lg_inj lt (by decide) (by rw [q]; rfl)
      have : bys (RTi w m s l p) n = 0 := by
        apply Classical.byContradiction
        intro c
        obtain ⟨i, a1, a2⟩ := b0.mp c
        rw [rt] at a2
        have o := R.2 i a1
        have fo := flt_ok o.2 o.1
        by_cases hz : w (pos w i) = 122
        · exact rb.mpr ⟨i, a1, hz, a2⟩ z0
        · rcases (RTa_nz hz).mp a2 with d | d
          · have := sr7.mpr ⟨i, a1, d⟩; omega
          · have := sr8.mpr ⟨i, a1, by omega, d.2⟩; omega
      rw [if_neg (fun c => c this)]
      exact ⟨rfl, rfl⟩
    · obtain ⟨i, a1, a2, a3⟩ := rb.mp (fun c => q (by rw [c]; rfl))
      exact ⟨i, a1, a3⟩
theorem K246_57_62 {h : HP} {w : Int → Int} {n : Nat} {l : List Int} {m s : Int → Int} {p : Nat} (R : Rok w n) (z : ZR 57 h w n) (r : RowIs 62 h l m s) (hs : ∀ g, 0 ≤ s g ∧ s g ≤ 8) (hp : p < l.length) : Wp X 2 246 0 [vr 57, vr 62, vi p, vu, vu, vu, vu, vu, vu] [] h (fun v h' => v = some (vl (lg (RB w n s l p))) ∧ h' = h) := by
  have wl := wdt_le (w := w) n (fun i hi hz => (rok_z R hi hz).2.2.1)
  have hl := r.2.1
  have L : ∀ (k d : Nat) (z8 : aV), (d : Int) + k = wdt w n → d ≤ p + 1 → Wp X 2 246 14 [vr 57, vr 62, vi p, vl (lg (pkH (cnt w n (upB s) l p d) 8)), vu, vl (lg (pkH (cnt w n (dnB s) l p d) 8)), vu, vi d, z8] [] h (fun v h' => v = some (vl (lg (RB w n s l p))) ∧ h' = h) := by
    intro k
    induction k with
    | zero =>
      intro d z8 hd hdp
      exact S246_57_62_14 _ _ _ _ z8 ⟨fun _ => ⟨by rw [fin_RB R (.inl (by omega))], rfl⟩, fun q => absurd q (by rw [z.2.1]; omega)⟩
    | succ k ih =>
      intro d z8 hd hdp
      refine S246_57_62_14 _ _ _ _ z8 ⟨fun q => absurd q (by rw [z.2.1]; omega), fun _ => ⟨fun q => ⟨by rw [fin_RB R (.inr (by omega))], rfl⟩, fun q => ⟨by unfold R32; omega, fun q2 => absurd q2 (by omega), fun _ => ⟨fun q2 => absurd q2 (by rw [r.1]; omega), fun _ => ⟨⟨by omega, by omega⟩, ?_⟩⟩⟩⟩⟩
      have x : (p : Int) - d = ((p - d : Nat) : Int) := by omega
      have rr : h 65 ((p - d : Nat) : Int) = s (l.getD (p - d) 0) := (r.2.2 (p - d) (by omega)).2.2.1
      have sv := hs (l.getD (p - d) 0)
      rw [x, rr]
      refine ⟨fun q2 => absurd q2 (by omega), fun _ => ⟨fun q2 => absurd q2 (by omega), fun _ => ⟨fun q2 => absurd q2 (by omega), fun _ => ⟨fun q5 => ?_, fun q2 => absurd q2 (by omega)⟩⟩⟩⟩
      have zs := z.2.2.1 (s (l.getD (p - d) 0)).toNat (by omega)
      rw [show (((s (l.getD (p - d) 0)).toNat : Nat) : Int) = s (l.getD (p - d) 0) by omega] at zs
      have zd : h 60 (d : Int) = lg (pkH (gsl w n d) 8) := z.2.2.2 d (by omega)
      have zs1 : h 58 (s (l.getD (p - d) 0)) = lg (pkH (gab w n (s (l.getD (p - d) 0)).toNat) 8) := zs.1
      have zs2 : h 59 (s (l.getD (p - d) 0)) = lg (pkH (gbl w n (s (l.getD (p - d) 0)).toNat) 8) := zs.2
      rw [zs1, zs2, zd, cnt_up R (by omega) sv.1, cnt_dn R (by omega) sv.1]
      exact ih (d + 1) _ (by omega) (by omega)
  have g := L (wdt w n).toNat 0 vu (by omega) (by omega)
  rw [cnt_0, cnt_0, ← z.1] at g
  exact S246_57_62_0 _ g
theorem K208_53_62 {h : HP} {w : Int → Int} {n : Nat} {l : List Int} {m s : Int → Int} {p : Nat} (R : Rok w n) (ps : PS 53 h w n) (r : RowIs 62 h l m s) (hs : ∀ g, 0 ≤ s g ∧ s g ≤ 8) (hp : p < l.length) : Wp X 3 208 0 [vr 53, vr 62, vi p] [] h (fun v h' => v = some (vi (if bys (RTi w m s l p) n ≠ 0 then 1 else 0)) ∧ h' = h) := by
  have hl := r.2.1
  have rp := r.2.2 p hp
  have e5 : h 67 (p : Int) = swy (msq m l) p := rp.2.2.2.2.1
  have e6 : h 68 (p : Int) = owy (msq m l) p := rp.2.2.2.2.2
  have sr := swy_r (s := msq m l) p
  have b0 := bys_n0 (F := RTi w m s l p) n
  have sr7 := sho_le (w := w) (c := 114) (x := swy (msq m l) p) (by omega) n
  have sr8 := sho_le (w := w) (c := 97) (x := owy (msq m l) p) (by omega) n
  have rt : ∀ i : Nat, RTi w m s l p i = RTa w m s l p (pos w i) := fun i => rfl
  have yes : (∃ i : Nat, i < n ∧ RTa w m s l p (pos w i) = true) → (some (vi 1) = some (vi (if bys (RTi w m s l p) n ≠ 0 then 1 else 0)) ∧ h = h) := by
    rintro ⟨i, a1, a2⟩
    rw [if_pos (b0.mpr ⟨i, a1, a2⟩)]
    exact ⟨rfl, rfl⟩
  refine S208_53_62_0 _ ⟨fun q => absurd q (by omega), fun _ => ⟨fun q => absurd q (by rw [r.1]; omega), fun _ => ⟨⟨by omega, by omega⟩, ?_⟩⟩⟩
  rw [e5, e6, ps.2.1, ps.2.2.1]
  refine ⟨fun q => yes ?_, fun q7 => ⟨fun q => yes ?_, fun q8 => (K246_57_62 R ps.2.2.2 r hs hp).mono fun v h1 _ e => ?_⟩⟩
  · obtain ⟨i, a1, a2, a3⟩ := sr7.mp q
    exact ⟨i, a1, (RTa_nz (by omega)).mpr (.inl ⟨a2, a3⟩)⟩
  · obtain ⟨i, a1, a2, a3⟩ := sr8.mp q
    exact ⟨i, a1, (RTa_nz (by omega)).mpr (.inr ⟨by omega, a3⟩)⟩
  · obtain ⟨rfl, rfl⟩ := e
    have rb := RB_n0 R (m := m) (s := s) (l := l) (p := p)
    have lt := RB_lt (w := w) (n := n) (s := s) (l := l) (p := p)
    refine S208_53_62_33 _ _ _ _ ?_
    rw [lcp_e, lcp_n]
    refine ⟨fun q => ?_, fun q => yes ?_⟩
    · have z0 : RB w n s l p = 0 := lg_inj lt (by decide) (by rw [q]; rfl)
      have : bys (RTi w m s l p) n = 0 := by
        apply Classical.byContradiction
        intro c
        obtain ⟨i, a1, a2⟩ := b0.mp c
        rw [rt] at a2
        have o := R.2 i a1
        have fo := flt_ok o.2 o.1
        by_cases hz : w (pos w i) = 122
        · exact rb.mpr ⟨i, a1, hz, a2⟩ z0
        · rcases (RTa_nz hz).mp a2 with d | d
          · have := sr7.mpr ⟨i, a1, d⟩; omega
          · have := sr8.mpr ⟨i, a1, by omega, d.2⟩; omega
      rw [if_neg (fun c => c this)]
      exact ⟨rfl, rfl⟩
    · obtain ⟨i, a1, a2, a3⟩ := rb.mp (fun c => q (by rw [c]; rfl))
      exact ⟨i, a1, a3⟩
theorem K209_45 {h : HP} {w : Int → Int} {n : Nat} {l : List Int} {m s : Int → Int} {p : Nat} (R : Rok w n) (e5 : h 45 5 = n) (ps : PS 45 h w n) (r : RowIs 37 h l m s) (hs : ∀ g, 0 ≤ s g ∧ s g ≤ 8) (hp : p < l.length) : Wp X 3 209 0 [vr 45, vr 37, vi p, vu, vu, vu, vu, vu] [] h (fun v h' => v = some (vi (bys (RTi w m s l p) n : Int)) ∧ h' = h) := by
  have hl := r.2.1
  have hn := R.1
  have rp := r.2.2 p hp
  have x5 : h 42 (p : Int) = swy (msq m l) p := rp.2.2.2.2.1
  have x6 : h 43 (p : Int) = owy (msq m l) p := rp.2.2.2.2.2
  have L : ∀ (k i : Nat) (z7 : aV), i + k = n → Wp X 3 209 16 [vr 45, vr 37, vi p, vl (lg (RB w n s l p)), vu, vi (bys (RTi w m s l p) i : Int), vi i, z7] [] h (fun v h' => v = some (vi (bys (RTi w m s l p) n : Int)) ∧ h' = h) := by
    intro k
    induction k with
    | zero =>
      intro i z7 hi
      have hi : i = n := by omega
      subst hi
      exact S209_45_37_16 _ _ _ _ z7 ⟨fun _ => ⟨rfl, rfl⟩, fun q => absurd q (by rw [e5]; omega)⟩
    | succ k ih =>
      intro i z7 hi
      have pi := ps.1 i (by omega)
      have o := R.2 i (by omega)
      have fo := flt_ok o.2 o.1
      have rt : RTi w m s l p i = RTa w m s l p (pos w i) := rfl
      have go0 : ∀ z7, RTa w m s l p (pos w i) = false → Wp X 3 209 16 [vr 45, vr 37, vi p, vl (lg (RB w n s l p)), vu, vi (bys (RTi w m s l p) i : Int), vi ((i : Int) + 1), z7] [] h (fun v h' => v = some (vi (bys (RTi w m s l p) n : Int)) ∧ h' = h) := by
        intro z7 q
        have g := ih (i + 1) z7 (by omega)
        rw [bys_skip (F := RTi w m s l p) (n := i) q] at g
        exact g
      have go1 : ∀ z7, RTa w m s l p (pos w i) = true → Wp X 3 209 16 [vr 45, vr 37, vi p, vl (lg (RB w n s l p)), vu, vi ((i32 (bys (RTi w m s l p) i : Int) ||| i32 ((i32 1 <<< (i32 (i : Int) &&& 31)).toInt)).toInt), vi ((i : Int) + 1), z7] [] h (fun v h' => v = some (vi (bys (RTi w m s l p) n : Int)) ∧ h' = h) := by
        intro z7 q
        rw [bys_step (F := RTi w m s l p) (n := i) (by omega) q]
        exact ih (i + 1) z7 (by omega)
      have nt : ¬ RTa w m s l p (pos w i) = true → RTa w m s l p (pos w i) = false := fun q => by
        cases c : RTa w m s l p (pos w i)
        · rfl
        · exact absurd c q
      refine S209_45_37_16 _ _ _ _ z7 ?_
      rw [e5, show h 47 (i : Int) = w (pos w i) from pi.1, show h 48 (i : Int) = kR w (pos w i) from pi.2, x5, x6]
      refine ⟨fun q => absurd q (by omega), fun _ => ⟨fun q => absurd q (by omega), fun _ => ⟨⟨by omega, by omega⟩, fun c97 => ⟨fun q => absurd q (by omega), fun _ => ⟨fun q => absurd q (by rw [r.1]; omega), fun _ => ⟨⟨by omega, by omega⟩, fun q => go0 _ (nt fun c => ?_), fun q => go1 _ ((RTa_nz (by omega)).mpr (.inr ⟨by omega, q⟩))⟩⟩⟩, fun n97 => ⟨fun c114 => ⟨fun q => absurd q (by omega), fun _ => ⟨fun q => absurd q (by rw [r.1]; omega), fun _ => ⟨⟨by omega, by omega⟩, fun q => go0 _ (nt fun c => ?_), fun q => go1 _ ((RTa_nz (by omega)).mpr (.inl ⟨c114, q⟩))⟩⟩⟩, fun n114 => ?_⟩⟩⟩⟩
      · rcases (RTa_nz (by omega)).mp c with d | d <;> omega
      · rcases (RTa_nz (by omega)).mp c with d | d <;> omega
      · have hz : w (pos w i) = 122 := by omega
        have lt := RB_lt (w := w) (n := n) (s := s) (l := l) (p := p)
        have e8 : (8 * (i : Int)) + 7 = ((8 * i + 7 : Nat) : Int) := by omega
        have dv : RB w n s l p / 256 ^ i % 256 = if i < n ∧ w (pos w i) = 122 ∧ (kR w (pos w i) ≤ zcu (upB s (zR w (pos w i))) l p (nR w (pos w i)).toNat ∨ kR w (pos w i) ≤ zcu (dnB s (zR w (pos w i))) l p (nR w (pos w i)).toNat) then 128 else 0 := pkH_div (fun i => by
          show (if _ then _ else _) < 256
          split <;> omega) (by omega)
        have e1 : RB w n s l p / 2 ^ (8 * i + 7) = RB w n s l p / 256 ^ i / 128 := by
          rw [Nat.pow_add, Nat.div_div_eq_div_mul, pow256]
        have e2 : (i64 (lg (RB w n s l p / 2 ^ (8 * i + 7))) &&& i64 1).toInt = ((RB w n s l p / 2 ^ (8 * i + 7) % 2 : Nat) : Int) := by
          have a := lg_and (a := RB w n s l p / 2 ^ (8 * i + 7)) (b := 1)
          have a : (i64 (lg (RB w n s l p / 2 ^ (8 * i + 7))) &&& i64 1).toInt = lg (RB w n s l p / 2 ^ (8 * i + 7) &&& 1) := a
          rw [a, Nat.and_one_is_mod, lg_nat (by omega)]
        rw [e8, lg_ushr lt (by omega), e2, lcp_e, lcp_n, e1]
        have ra : RTa w m s l p (pos w i) = decide (kR w (pos w i) ≤ zcu (upB s (zR w (pos w i))) l p (nR w (pos w i)).toNat ∨ kR w (pos w i) ≤ zcu (dnB s (zR w (pos w i))) l p (nR w (pos w i)).toNat) := if_pos hz
        refine ⟨fun q => go0 _ (nt fun c => ?_), fun q => go1 _ ?_⟩
        · rw [ra, decide_eq_true_iff] at c
          rw [if_pos ⟨by omega, hz, c⟩] at dv
          omega
        · rw [ra]
          refine decide_eq_true ?_
          apply Classical.byContradiction
          intro c
          rw [if_neg (fun d => c d.2.2)] at dv
          omega
  refine S209_45_37_0 _ ((K246_49_37 R ps.2.2.2 r hs hp).mono fun v h1 _ e => ?_)
  obtain ⟨rfl, rfl⟩ := e
  exact S209_45_37_9 _ _ (L n 0 vu (by omega))
theorem K209_53 {h : HP} {w : Int → Int} {n : Nat} {l : List Int} {m s : Int → Int} {p : Nat} (R : Rok w n) (e5 : h 53 5 = n) (ps : PS 53 h w n) (r : RowIs 37 h l m s) (hs : ∀ g, 0 ≤ s g ∧ s g ≤ 8) (hp : p < l.length) : Wp X 3 209 0 [vr 53, vr 37, vi p, vu, vu, vu, vu, vu] [] h (fun v h' => v = some (vi (bys (RTi w m s l p) n : Int)) ∧ h' = h) := by
  have hl := r.2.1
  have hn := R.1
  have rp := r.2.2 p hp
  have x5 : h 42 (p : Int) = swy (msq m l) p := rp.2.2.2.2.1
  have x6 : h 43 (p : Int) = owy (msq m l) p := rp.2.2.2.2.2
  have L : ∀ (k i : Nat) (z7 : aV), i + k = n → Wp X 3 209 16 [vr 53, vr 37, vi p, vl (lg (RB w n s l p)), vu, vi (bys (RTi w m s l p) i : Int), vi i, z7] [] h (fun v h' => v = some (vi (bys (RTi w m s l p) n : Int)) ∧ h' = h) := by
    intro k
    induction k with
    | zero =>
      intro i z7 hi
      have hi : i = n := by omega
      subst hi
      exact S209_53_37_16 _ _ _ _ z7 ⟨fun _ => ⟨rfl, rfl⟩, fun q => absurd q (by rw [e5]; omega)⟩
    | succ k ih =>
      intro i z7 hi
      have pi := ps.1 i (by omega)
      have o := R.2 i (by omega)
      have fo := flt_ok o.2 o.1
      have rt : RTi w m s l p i = RTa w m s l p (pos w i) := rfl
      have go0 : ∀ z7, RTa w m s l p (pos w i) = false → Wp X 3 209 16 [vr 53, vr 37, vi p, vl (lg (RB w n s l p)), vu, vi (bys (RTi w m s l p) i : Int), vi ((i : Int) + 1), z7] [] h (fun v h' => v = some (vi (bys (RTi w m s l p) n : Int)) ∧ h' = h) := by
        intro z7 q
        have g := ih (i + 1) z7 (by omega)
        rw [bys_skip (F := RTi w m s l p) (n := i) q] at g
        exact g
      have go1 : ∀ z7, RTa w m s l p (pos w i) = true → Wp X 3 209 16 [vr 53, vr 37, vi p, vl (lg (RB w n s l p)), vu, vi ((i32 (bys (RTi w m s l p) i : Int) ||| i32 ((i32 1 <<< (i32 (i : Int) &&& 31)).toInt)).toInt), vi ((i : Int) + 1), z7] [] h (fun v h' => v = some (vi (bys (RTi w m s l p) n : Int)) ∧ h' = h) := by
        intro z7 q
        rw [bys_step (F := RTi w m s l p) (n := i) (by omega) q]
        exact ih (i + 1) z7 (by omega)
      have nt : ¬ RTa w m s l p (pos w i) = true → RTa w m s l p (pos w i) = false := fun q => by
        cases c : RTa w m s l p (pos w i)
        · rfl
        · exact absurd c q
      refine S209_53_37_16 _ _ _ _ z7 ?_
      rw [e5, show h 55 (i : Int) = w (pos w i) from pi.1, show h 56 (i : Int) = kR w (pos w i) from pi.2, x5, x6]
      refine ⟨fun q => absurd q (by omega), fun _ => ⟨fun q => absurd q (by omega), fun _ => ⟨⟨by omega, by omega⟩, fun c97 => ⟨fun q => absurd q (by omega), fun _ => ⟨fun q => absurd q (by rw [r.1]; omega), fun _ => ⟨⟨by omega, by omega⟩, fun q => go0 _ (nt fun c => ?_), fun q => go1 _ ((RTa_nz (by omega)).mpr (.inr ⟨by omega, q⟩))⟩⟩⟩, fun n97 => ⟨fun c114 => ⟨fun q => absurd q (by omega), fun _ => ⟨fun q => absurd q (by rw [r.1]; omega), fun _ => ⟨⟨by omega, by omega⟩, fun q => go0 _ (nt fun c => ?_), fun q => go1 _ ((RTa_nz (by omega)).mpr (.inl ⟨c114, q⟩))⟩⟩⟩, fun n114 => ?_⟩⟩⟩⟩
      · rcases (RTa_nz (by omega)).mp c with d | d <;> omega
      · rcases (RTa_nz (by omega)).mp c with d | d <;> omega
      · have hz : w (pos w i) = 122 := by omega
        have lt := RB_lt (w := w) (n := n) (s := s) (l := l) (p := p)
        have e8 : (8 * (i : Int)) + 7 = ((8 * i + 7 : Nat) : Int) := by omega
        have dv : RB w n s l p / 256 ^ i % 256 = if i < n ∧ w (pos w i) = 122 ∧ (kR w (pos w i) ≤ zcu (upB s (zR w (pos w i))) l p (nR w (pos w i)).toNat ∨ kR w (pos w i) ≤ zcu (dnB s (zR w (pos w i))) l p (nR w (pos w i)).toNat) then 128 else 0 := pkH_div (fun i => by
          show (if _ then _ else _) < 256
          split <;> omega) (by omega)
        have e1 : RB w n s l p / 2 ^ (8 * i + 7) = RB w n s l p / 256 ^ i / 128 := by
          rw [Nat.pow_add, Nat.div_div_eq_div_mul, pow256]
        have e2 : (i64 (lg (RB w n s l p / 2 ^ (8 * i + 7))) &&& i64 1).toInt = ((RB w n s l p / 2 ^ (8 * i + 7) % 2 : Nat) : Int) := by
          have a := lg_and (a := RB w n s l p / 2 ^ (8 * i + 7)) (b := 1)
          have a : (i64 (lg (RB w n s l p / 2 ^ (8 * i + 7))) &&& i64 1).toInt = lg (RB w n s l p / 2 ^ (8 * i + 7) &&& 1) := a
          rw [a, Nat.and_one_is_mod, lg_nat (by omega)]
        rw [e8, lg_ushr lt (by omega), e2, lcp_e, lcp_n, e1]
        have ra : RTa w m s l p (pos w i) = decide (kR w (pos w i) ≤ zcu (upB s (zR w (pos w i))) l p (nR w (pos w i)).toNat ∨ kR w (pos w i) ≤ zcu (dnB s (zR w (pos w i))) l p (nR w (pos w i)).toNat) := if_pos hz
        refine ⟨fun q => go0 _ (nt fun c => ?_), fun q => go1 _ ?_⟩
        · rw [ra, decide_eq_true_iff] at c
          rw [if_pos ⟨by omega, hz, c⟩] at dv
          omega
        · rw [ra]
          refine decide_eq_true ?_
          apply Classical.byContradiction
          intro c
          rw [if_neg (fun d => c d.2.2)] at dv
          omega
  refine S209_53_37_0 _ ((K246_57_37 R ps.2.2.2 r hs hp).mono fun v h1 _ e => ?_)
  obtain ⟨rfl, rfl⟩ := e
  exact S209_53_37_9 _ _ (L n 0 vu (by omega))
end
