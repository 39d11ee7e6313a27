-- ===== the class: how soon =====
def cdn (e : Nat → Nat) : Nat → Nat
  | 0 => 0
  | k + 1 => cdn e k + e k * 8 ^ k
theorem cdn_lt {e : Nat → Nat} : ∀ {k : Nat}, (∀ a, a < k → e a < 8) → cdn e k < 8 ^ k
  | 0, _ => by show 0 < 8 ^ 0; decide
  | k + 1, H => by
    have := cdn_lt (k := k) (fun a ha => H a (by omega))
    have h2 : e k * 8 ^ k ≤ 7 * 8 ^ k := Nat.mul_le_mul_right _ (by have := H k (by omega); omega)
    show cdn e k + e k * 8 ^ k < 8 ^ (k + 1)
    rw [Nat.pow_succ]
    omega
theorem cdn_dg {e : Nat → Nat} {a : Nat} : ∀ {k : Nat}, (∀ a, a < k → e a < 8) → a < k → cdn e k / 8 ^ a % 8 = e a
  | 0, _, h => absurd h (Nat.not_lt_zero a)
  | k + 1, H, h => by
    show (cdn e k + e k * 8 ^ k) / 8 ^ a % 8 = e a
    have p : 0 < 8 ^ a := Nat.pow_pos (by decide)
    by_cases q : a = k
    · subst q
      rw [Nat.add_mul_div_right _ _ p, Nat.div_eq_of_lt (cdn_lt fun i hi => H i (by omega)), Nat.zero_add, Nat.mod_eq_of_lt (H a (by omega))]
    · obtain ⟨d, hd⟩ : ∃ d, k = a + 1 + d := ⟨k - a - 1, by omega⟩
      have e2 : e k * 8 ^ k = (e k * 8 ^ d * 8) * 8 ^ a := by
        rw [hd, Nat.pow_add, Nat.pow_succ]
        simp only [Nat.mul_assoc, Nat.mul_comm, Nat.mul_left_comm]
      rw [e2, Nat.add_mul_div_right _ _ p, Nat.add_mul_mod_self_right, cdn_dg (k := k) (fun i hi => H i (by omega)) (by omega)]
theorem cdn_mod {e : Nat → Nat} {k : Nat} : ∀ {K : Nat}, (∀ a, a < K → e a < 8) → k ≤ K → cdn e K % 8 ^ k = cdn e k
  | 0, _, h => by rw [show k = 0 by omega]; rfl
  | K + 1, H, h => by
    by_cases q : k = K + 1
    · rw [q, Nat.mod_eq_of_lt (cdn_lt H)]
    · obtain ⟨d, hd⟩ : ∃ d, K = k + d := ⟨K - k, by omega⟩
      show (cdn e K + e K * 8 ^ K) % 8 ^ k = cdn e k
      have e2 : e K * 8 ^ K = (e K * 8 ^ d) * 8 ^ k := by
        rw [hd, Nat.pow_add]
        simp only [Nat.mul_assoc, Nat.mul_comm, Nat.mul_left_comm]
      rw [e2, Nat.add_mul_mod_self_right, cdn_mod (K := K) (fun i hi => H i (by omega)) (by omega)]
theorem cdn_cs {e : Nat → Nat} {c : Nat} {F : Nat → Nat} : ∀ k : Nat, cdn (fun a => F (cs c e a)) (k + 1) = F c + 8 * cdn (fun a => F (e a)) k
  | 0 => by show 0 + F c * 1 = F c + 8 * 0; omega
  | k + 1 => by
    have ih := cdn_cs (e := e) (c := c) (F := F) k
    show cdn (fun a => F (cs c e a)) (k + 1) + F (e k) * 8 ^ (k + 1) = F c + 8 * (cdn (fun a => F (e a)) k + F (e k) * 8 ^ k)
    rw [ih, Nat.pow_succ, Nat.mul_add, ← Nat.mul_assoc, Nat.mul_comm (F (e k) * 8 ^ k) 8]
    omega
/-- classes that all rules count alike -/
def lA (w : Int → Int) (n s : Nat) : Nat := pkH (fun i => gab w n s i &&& gsl w n 0 i) 8
def lB (w : Int → Int) (n s : Nat) : Nat := pkH (fun i => gbl w n s i &&& gsl w n 0 i) 8
def alk (w : Int → Int) (n f s : Nat) : Bool := decide (lA w n f = lA w n s ∧ lB w n f = lB w n s)
def fsF (al : Nat → Bool) : Nat → Nat → Nat
  | 0, f => f
  | k + 1, f => if al f then f else fsF al k (f + 1)
def fst' (w : Int → Int) (n s : Nat) : Nat := fsF (fun f => alk w n f s) s 0
theorem fsF_ok {al : Nat → Bool} : ∀ (k f : Nat), fsF al k f ≤ f + k ∧ (al (f + k) = true → al (fsF al k f) = true)
  | 0, f => ⟨Nat.le_refl _, fun q => q⟩
  | k + 1, f => by
    have ih := fsF_ok (al := al) k (f + 1)
    show (if al f then f else fsF al k (f + 1)) ≤ _ ∧ (_ → al (if al f then f else fsF al k (f + 1)) = true)
    by_cases q : al f = true
    · rw [if_pos q]; exact ⟨by omega, fun _ => q⟩
    · rw [if_neg q]
      exact ⟨by omega, fun z => ih.2 (by rw [show f + 1 + k = f + (k + 1) by omega]; exact z)⟩
theorem and_gsl {w : Int → Int} {n i a v : Nat} (hv : v ≤ 1) (hi : i < n) (hz : w (pos w i) = 122) : v &&& gsl w n a i = if (a : Int) < nR w (pos w i) then v else 0 := by
  unfold gsl
  by_cases q : (a : Int) < nR w (pos w i)
  · rw [if_pos ⟨hi, hz, q⟩, if_pos q]
    rcases (show v = 0 ∨ v = 1 by omega) with e | e
    · rw [e]; rfl
    · rw [e]; rfl
  · rw [if_neg (fun c => q c.2.2), if_neg q]; exact Nat.and_zero v
theorem gab_le {w : Int → Int} {n s i : Nat} : gab w n s i ≤ 1 := by unfold gab; split <;> omega
theorem gbl_le {w : Int → Int} {n s i : Nat} : gbl w n s i ≤ 1 := by unfold gbl; split <;> omega
theorem fst_ok {w : Int → Int} {n : Nat} (z : Zok w n) (s : Nat) : fst' w n s ≤ s ∧ ∀ i, i < n → gab w n (fst' w n s) i = gab w n s i ∧ gbl w n (fst' w n s) i = gbl w n s i := by
  have k := fsF_ok (al := fun f => alk w n f s) s 0
  rw [Nat.zero_add] at k
  refine ⟨k.1, fun i hi => ?_⟩
  have a : alk w n (fst' w n s) s = true := k.2 (decide_eq_true ⟨rfl, rfl⟩)
  have a := of_decide_eq_true a
  have r := z.2 i hi
  have h8 := z.1
  have lt : ∀ (v j : Nat), v &&& gsl w n 0 j < 256 := fun v j => Nat.lt_of_le_of_lt Nat.and_le_right (gsl_lt j)
  have d1 := pkH_div (g := fun i => gab w n (fst' w n s) i &&& gsl w n 0 i) (fun j => lt _ j) (show i < 8 by omega)
  have d2 := pkH_div (g := fun i => gab w n s i &&& gsl w n 0 i) (fun j => lt _ j) (show i < 8 by omega)
  have d3 := pkH_div (g := fun i => gbl w n (fst' w n s) i &&& gsl w n 0 i) (fun j => lt _ j) (show i < 8 by omega)
  have d4 := pkH_div (g := fun i => gbl w n s i &&& gsl w n 0 i) (fun j => lt _ j) (show i < 8 by omega)
  have a1 : pkH (fun i => gab w n (fst' w n s) i &&& gsl w n 0 i) 8 = pkH (fun i => gab w n s i &&& gsl w n 0 i) 8 := a.1
  have a2 : pkH (fun i => gbl w n (fst' w n s) i &&& gsl w n 0 i) 8 = pkH (fun i => gbl w n s i &&& gsl w n 0 i) 8 := a.2
  rw [a1, d2] at d1
  rw [a2, d4] at d3
  have p : ((0 : Nat) : Int) < nR w (pos w i) := by omega
  have d1 : gab w n s i &&& gsl w n 0 i = gab w n (fst' w n s) i &&& gsl w n 0 i := d1
  have d3 : gbl w n s i &&& gsl w n 0 i = gbl w n (fst' w n s) i &&& gsl w n 0 i := d3
  rw [and_gsl gab_le hi r.1, and_gsl gab_le hi r.1, if_pos p, if_pos p] at d1
  rw [and_gsl gbl_le hi r.1, and_gsl gbl_le hi r.1, if_pos p, if_pos p] at d3
  exact ⟨d1.symm, d3.symm⟩
/-- how many classes are held behind t groups -/
def hdn (w : Int → Int) (n t : Nat) : Nat := min t (wdt w n - 1).toNat
def eC (x k c : Nat) : Nat → Nat := cs c fun a => if a < k then x / 8 ^ a % 8 else 8
def wtC (w : Int → Int) (n : Nat) (sg : Nat → Int) (d : Int) (c : Nat) : Int := sn (fun i => if fst' w n (clp d i) = c then sg i else 0) 8
def hitC (w : Int → Int) (n t x c : Nat) : Bool := Rw w n (eC x (hdn w n t) c)
def nxC (w : Int → Int) (n t x c : Nat) : Nat := (8 * x + c) % 8 ^ hdn w n (t + 1)
def codC (w : Int → Int) (n t : Nat) (e : Nat → Nat) : Nat := cdn (fun a => fst' w n (e a)) (hdn w n t)
theorem Rd_C {w : Int → Int} {n : Nat} {d : Int} {sg : Nat → Int} (z : Zok w n) : Rd (wtC w n sg d) sg (hitC w n) (nxC w n) (fun t => 8 ^ hdn w n t) 0 (clp d) (fun i => fst' w n (clp d i)) (Rw w n) (codC w n) := by
  have hd : ∀ t, hdn w n t ≤ t := fun t => Nat.min_le_left _ _
  have f8 : ∀ {t : Nat} {e : Nat → Nat}, Wd t e → ∀ a, a < hdn w n t → fst' w n (e a) < 8 := fun {t e} h a ha => by
    have h1 := (fst_ok z (e a)).1
    have h2 := h.1 a (by have := hd t; omega)
    omega
  refine ⟨fun c _ => rfl, fun i _ => ⟨?_, clp_lt⟩, ?_, fun t e h => cdn_lt (f8 h), fun t e i h hi => ?_⟩
  · have := (fst_ok z (clp d i)).1
    have h2 := clp_lt (d := d) (c := i)
    show fst' w n (clp d i) < 8
    omega
  · show cdn _ (hdn w n 0) = 0
    rw [show hdn w n 0 = 0 from Nat.zero_min _]; rfl
  · have h8 : ∀ a, a < hdn w n t + 1 → fst' w n (cs (clp d i) e a) < 8 := fun a => match a with
      | 0 => fun _ => by
        have := (fst_ok z (clp d i)).1
        have h2 := clp_lt (d := d) (c := i)
        show fst' w n (clp d i) < 8
        omega
      | a + 1 => fun q => f8 h a (by omega)
    constructor
    · show Rw w n (eC (codC w n t e) (hdn w n t) (fst' w n (clp d i))) = _
      refine Rw_cg fun j hj a ha => ?_
      match a with
      | 0 => exact (fst_ok z (clp d i)).2 j hj
      | a + 1 =>
        show gab w n (if a < hdn w n t then codC w n t e / 8 ^ a % 8 else 8) j = gab w n (e a) j ∧ gbl w n (if a < hdn w n t then codC w n t e / 8 ^ a % 8 else 8) j = gbl w n (e a) j
        by_cases q : a < hdn w n t
        · rw [if_pos q]
          unfold codC
          rw [cdn_dg (f8 h) q]
          exact (fst_ok z (e a)).2 j hj
        · rw [if_neg q]
          have g := wdt_ge (w := w) (i := j) n hj (z.2 j hj).1
          have m : hdn w n t = min t (wdt w n - 1).toNat := rfl
          have ta : t ≤ a := by omega
          rw [h.2 a ta]
          exact ⟨rfl, rfl⟩
    · show (8 * codC w n t e + fst' w n (clp d i)) % 8 ^ hdn w n (t + 1) = cdn (fun a => fst' w n (cs (clp d i) e a)) (hdn w n (t + 1))
      have le : hdn w n (t + 1) ≤ hdn w n t + 1 := by unfold hdn; omega
      rw [← cdn_mod h8 le, cdn_cs]
      unfold codC
      rw [Nat.add_comm]
-- lanes
/-- what is counted behind k classes, by rules -/
def cl1 (w : Int → Int) (n : Nat) (g : Nat → Nat → Nat) (x : Nat) : Nat → Nat → Nat
  | 0, i => gst w n i
  | a + 1, i => cl1 w n g x a i + (g (x / 8 ^ a % 8) i &&& gsl w n (a + 1) i)
def cl2 (w : Int → Int) (n : Nat) (g : Nat → Nat → Nat) (x k c i : Nat) : Nat := cl1 w n g x k i + (g c i &&& gsl w n 0 i)
theorem cl2_ok {w : Int → Int} {n : Nat} (z : Zok w n) {g : Nat → Nat → Nat} (g1 : ∀ s i, g s i ≤ 1) (g8 : ∀ i, g 8 i = 0) {x k c i : Nat} (hi : i < n) : ((cl2 w n g x k c i : Nat) : Int) = 128 - kR w (pos w i) + sn (fun a => (g (eC x k c a) i : Int)) (nR w (pos w i)).toNat := by
  have r := z.2 i hi
  have a : ∀ j : Nat, j ≤ k → ((cl1 w n g x j i + (g c i &&& gsl w n 0 i) : Nat) : Int) = 128 - kR w (pos w i) + sn (fun a => (g (eC x k c a) i : Int)) (min (j + 1) (nR w (pos w i)).toNat) := by
    intro j
    induction j with
    | zero =>
      intro _
      have m : min (0 + 1) (nR w (pos w i)).toNat = 0 + 1 := Nat.min_eq_left (by omega)
      have eg : gst w n i = (128 - kR w (pos w i)).toNat := if_pos ⟨hi, r.1⟩
      rw [m, and_gsl (g1 c i) hi r.1, if_pos (show ((0 : Nat) : Int) < _ by omega)]
      show ((gst w n i + g c i : Nat) : Int) = _ + (0 + (g c i : Int))
      rw [eg]
      omega
    | succ j ih =>
      intro hj
      have ih := ih (by omega)
      have ed : eC x k c (j + 1) = x / 8 ^ j % 8 := if_pos (by omega)
      have e1 : cl1 w n g x (j + 1) i = cl1 w n g x j i + (g (x / 8 ^ j % 8) i &&& gsl w n (j + 1) i) := rfl
      rw [e1, and_gsl (g1 (x / 8 ^ j % 8) i) hi r.1]
      by_cases q : ((j + 1 : Nat) : Int) < nR w (pos w i)
      · have m1 : min (j + 1 + 1) (nR w (pos w i)).toNat = j + 1 + 1 := Nat.min_eq_left (by omega)
        have m0 : min (j + 1) (nR w (pos w i)).toNat = j + 1 := Nat.min_eq_left (by omega)
        rw [m0] at ih
        rw [m1, if_pos q]
        show _ = _ + (sn (fun a => (g (eC x k c a) i : Int)) (j + 1) + (g (eC x k c (j + 1)) i : Int))
        rw [ed]
        omega
      · have m1 : min (j + 1 + 1) (nR w (pos w i)).toNat = (nR w (pos w i)).toNat := Nat.min_eq_right (by omega)
        have m0 : min (j + 1) (nR w (pos w i)).toNat = (nR w (pos w i)).toNat := Nat.min_eq_right (by omega)
        rw [m0] at ih
        rw [m1, if_neg q]
        omega
  have b := a k (Nat.le_refl k)
  unfold cl2
  rw [b]
  by_cases q : (nR w (pos w i)).toNat ≤ k + 1
  · rw [Nat.min_eq_right q]
  · rw [Nat.min_eq_left (by omega)]
    have ext : ∀ m : Nat, sn (fun a => (g (eC x k c a) i : Int)) (k + 1 + m) = sn (fun a => (g (eC x k c a) i : Int)) (k + 1) := by
      intro m
      induction m with
      | zero => rfl
      | succ m ih =>
        show sn (fun a => (g (eC x k c a) i : Int)) (k + 1 + m) + (g (eC x k c (k + 1 + m)) i : Int) = _
        have e8 : eC x k c (k + 1 + m) = 8 := by
          rw [show k + 1 + m = (k + m) + 1 by omega]
          exact if_neg (by omega)
        rw [ih, e8, g8]
        exact Int.add_zero _
    have := ext ((nR w (pos w i)).toNat - (k + 1))
    rw [show k + 1 + ((nR w (pos w i)).toNat - (k + 1)) = (nR w (pos w i)).toNat by omega] at this
    rw [this]
theorem cl2_0 {w : Int → Int} {n : Nat} {g : Nat → Nat → Nat} {x k c i : Nat} (hi : ¬ i < n) : cl2 w n g x k c i = 0 := by
  have s : ∀ (v a : Nat), v &&& gsl w n a i = 0 := fun v a => by
    rw [show gsl w n a i = 0 from if_neg (fun q => hi q.1)]; exact Nat.and_zero v
  have c1 : ∀ k, cl1 w n g x k i = 0 := by
    intro k
    induction k with
    | zero => exact if_neg (fun q => hi q.1)
    | succ k ih => show cl1 w n g x k i + _ = 0; rw [ih, s]
  unfold cl2
  rw [c1, s]
theorem cl2_lt {w : Int → Int} {n : Nat} (z : Zok w n) {g : Nat → Nat → Nat} (g1 : ∀ s i, g s i ≤ 1) (g8 : ∀ i, g 8 i = 0) {x k c i : Nat} : cl2 w n g x k c i < 256 := by
  by_cases hi : i < n
  · have a := cl2_ok z g1 g8 (x := x) (k := k) (c := c) hi
    have r := z.2 i hi
    have b := sn_01 (f := fun a => (g (eC x k c a) i : Int)) (n := (nR w (pos w i)).toNat) (fun j _ => by have := g1 (eC x k c j) i; omega)
    omega
  · rw [cl2_0 hi]; decide
theorem top_0 {f g : Nat → Nat} (hf : ∀ i, f i < 256) (hg : ∀ i, g i < 256) : (i64 ((i64 (lg (pkH f 8)) ||| i64 (lg (pkH g 8))).toInt) &&& i64 (-9187201950435737472)).toInt = 0 ↔ ∀ i, i < 8 → f i < 128 ∧ g i < 128 := by
  have eh : (-9187201950435737472 : Int) = lg (pkH (fun _ => 128) 8) := by decide +kernel
  have ho : ∀ i, f i ||| g i < 256 := fun i => Nat.or_lt_two_pow (n := 8) (hf i) (hg i)
  rw [lg_or, pkH_or hf hg, eh, lg_and, pkH_and ho (fun _ => by decide)]
  have lt := pkH_lt (g := fun i => (f i ||| g i) &&& 128) (fun i => Nat.lt_of_le_of_lt Nat.and_le_right (by decide)) 8
  constructor
  · intro e i hi
    have e0 : pkH (fun i => (f i ||| g i) &&& 128) 8 = 0 := lg_inj lt (by decide) (e.trans lg_0.symm)
    exact (or128 _ (hf i) _ (hg i)).mp ((pkH_z 8).mp e0 i hi)
  · intro H
    rw [(pkH_z 8).mpr (fun i hi => (or128 _ (hf i) _ (hg i)).mpr (H i hi))]
    rfl
theorem top_hit {w : Int → Int} {n : Nat} (z : Zok w n) {x k c : Nat} : (i64 ((i64 (lg (pkH (cl2 w n (gab w n) x k c) 8)) ||| i64 (lg (pkH (cl2 w n (gbl w n) x k c) 8))).toInt) &&& i64 (-9187201950435737472)).toInt = 0 ↔ Rw w n (eC x k c) = false := by
  have a8 : ∀ i, gab w n 8 i = 0 := fun i => if_neg (by omega)
  have b8 : ∀ i, gbl w n 8 i = 0 := fun i => if_neg (by omega)
  rw [top_0 (fun i => cl2_lt (g := gab w n) z (fun s i => gab_le) a8) (fun i => cl2_lt (g := gbl w n) z (fun s i => gbl_le) b8)]
  constructor
  · intro H
    rw [← Bool.not_eq_true]
    intro q
    obtain ⟨i, hi, t⟩ := Rw_iff.mp q
    have h8 := z.1
    have := H i (by omega)
    have e1 := cl2_ok z (g := gab w n) (fun s i => gab_le) a8 (x := x) (k := k) (c := c) hi
    have e2 := cl2_ok z (g := gbl w n) (fun s i => gbl_le) b8 (x := x) (k := k) (c := c) hi
    unfold RwI at t
    omega
  · intro q i _
    by_cases hi : i < n
    · have e1 := cl2_ok z (g := gab w n) (fun s i => gab_le) a8 (x := x) (k := k) (c := c) hi
      have e2 := cl2_ok z (g := gbl w n) (fun s i => gbl_le) b8 (x := x) (k := k) (c := c) hi
      have no : ¬ RwI w n (eC x k c) i := fun t => by
        have := Rw_iff.mpr ⟨i, hi, t⟩
        rw [q] at this
        exact absurd this (by decide)
      unfold RwI at no
      omega
    · rw [cl2_0 hi, cl2_0 hi]; decide
theorem dgC {x a : Nat} (hx : x < 4096) (ha : a < 4) : (i32 ((i32 (x : Int) >>> (i32 (3 * (((a : Int) + 1) - 1)) &&& 31)).toInt) &&& i32 7).toInt = ((x / 8 ^ a % 8 : Nat) : Int) := by
  rw [show (3 : Int) * (((a : Int) + 1) - 1) = ((3 * a : Nat) : Int) by omega, shr_N (by omega) (by omega)]
  have e := and_N (a := x / 2 ^ (3 * a)) (b := 7) (Nat.lt_of_le_of_lt (Nat.div_le_self _ _) (by omega)) (by decide)
  refine e.trans ?_
  rw [show (7 : Nat) = 2 ^ 3 - 1 from rfl, Nat.and_two_pow_sub_one_eq_mod, Nat.pow_mul]
theorem shl3 : ∀ u : Nat, u < 64 → ∀ v : Nat, v < 64 → (i32 ((64 * u + v : Nat) : Int) <<< (i32 3 &&& 31)).toInt = ((8 * (64 * u + v) : Nat) : Int) := by decide +kernel
theorem nx_N {x c k : Nat} (hx : x < 4096) (hc : c < 8) (hk : k ≤ 4) : (i32 ((i32 ((i32 ((i32 (x : Int) <<< (i32 3 &&& 31)).toInt) ||| i32 (c : Int)).toInt) &&& i32 ((8 : Int) ^ k - 1)).toInt) &&& i32 4095).toInt = (((8 * x + c) % 8 ^ k : Nat) : Int) := by
  have e0 := shl3 (x / 64) (by omega) (x % 64) (by omega)
  rw [show 64 * (x / 64) + x % 64 = x by omega] at e0
  have e1 : 8 * x ||| c = 8 * x + c := by
    have := splO (i := 3) (u := 0) (v := x) (m := c) (n := 0) (by decide) hc
    rw [Nat.zero_add, Nat.mul_zero, Nat.add_zero, Nat.zero_or, Nat.or_zero] at this
    show 2 ^ 3 * x ||| c = 2 ^ 3 * x + c
    omega
  rw [e0, or_N (by omega) (by omega), e1]
  have em : (8 : Int) ^ k - 1 = ((2 ^ (3 * k) - 1 : Nat) : Int) := by
    rcases (show k = 0 ∨ k = 1 ∨ k = 2 ∨ k = 3 ∨ k = 4 by omega) with q | q | q | q | q <;> rw [q] <;> rfl
  have pk : 2 ^ (3 * k) ≤ 4096 := by
    rcases (show k = 0 ∨ k = 1 ∨ k = 2 ∨ k = 3 ∨ k = 4 by omega) with q | q | q | q | q <;> rw [q] <;> decide
  rw [em, and_N (by omega) (by omega), Nat.and_two_pow_sub_one_eq_mod]
  have p0 : 0 < 2 ^ (3 * k) := Nat.pow_pos (by decide)
  have lt : (8 * x + c) % 2 ^ (3 * k) < 2 ^ (3 * k) := Nat.mod_lt _ p0
  have e := and_N (a := (8 * x + c) % 2 ^ (3 * k)) (b := 4095) (by omega) (by decide)
  refine e.trans ?_
  rw [show (4095 : Nat) = 2 ^ 12 - 1 from rfl, Nat.and_two_pow_sub_one_eq_mod, Nat.mod_eq_of_lt (show (8 * x + c) % 2 ^ (3 * k) < 2 ^ 12 by omega), Nat.pow_mul]
