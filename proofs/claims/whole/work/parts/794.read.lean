-- ===== texts and their rules; the class reads them =====
def fb (f : Int → Int) (len p : Int) : Int := if 0 ≤ p ∧ p < len then f p else -1
def kR (w : Int → Int) (a : Int) : Int := w (a + 1) - 48
def nR (w : Int → Int) (a : Int) : Int := if w a = 122 then w (a + 3) - 48 else kR w a
def zR (w : Int → Int) (a : Int) : Int := if w a = 122 then w (a + 5) - 48 else 0
def eR (w : Int → Int) (a : Int) : Int := if w a = 122 then a + 6 else a + 2
/-- the fault of the rule at a -/
def flt (w : Int → Int) (a : Int) : Int := if ¬ (w a = 122 ∨ w a = 114 ∨ w a = 97) then a else if kR w a < (if w a = 122 then 1 else if w a = 114 then 2 else 3) ∨ (if w a = 122 then 5 else 9) < kR w a then a + 1 else if w a ≠ 122 then -1 else if w (a + 2) ≠ 47 then a + 2 else if nR w a < kR w a ∨ 5 < nR w a then a + 3 else if w (a + 4) ≠ 62 then a + 4 else if zR w a < 0 ∨ 3 < zR w a then a + 5 else -1
def pos (w : Int → Int) : Nat → Int
  | 0 => 0
  | r + 1 => eR w (pos w r) + 1
def rdF (w : Int → Int) (len : Int) : Nat → Int → Int
  | 0, a => a
  | n + 1, a => if flt w a ≠ -1 then flt w a else if eR w a = len then -1 else if w (eR w a) ≠ 59 then eR w a else rdF w len n (eR w a + 1)
def rdN (w : Int → Int) (len : Int) : Nat → Int → Nat
  | 0, _ => 0
  | n + 1, a => if flt w a ≠ -1 then 0 else if eR w a = len then 1 else if w (eR w a) ≠ 59 then 1 else rdN w len n (eR w a + 1) + 1
def FA (w : Int → Int) (len : Int) : Int := if len = 0 then -1 else rdF w len 8 0
def NRu (w : Int → Int) (len : Int) : Nat := if len = 0 then 0 else rdN w len 8 0
/-- what a rule without a fault is -/
theorem flt_ok {w : Int → Int} {a : Int} (ha : 0 ≤ a) (h : flt w a = -1) : (w a = 122 ∧ 1 ≤ kR w a ∧ kR w a ≤ 5 ∧ w (a + 2) = 47 ∧ kR w a ≤ nR w a ∧ nR w a ≤ 5 ∧ w (a + 4) = 62 ∧ 0 ≤ zR w a ∧ zR w a ≤ 3 ∧ eR w a = a + 6) ∨ ((w a = 114 ∧ 2 ≤ kR w a ∨ w a = 97 ∧ 3 ≤ kR w a) ∧ kR w a ≤ 9 ∧ nR w a = kR w a ∧ zR w a = 0 ∧ eR w a = a + 2) := by
  by_cases c1 : w a = 122
  · left
    have e1 : eR w a = a + 6 := if_pos c1
    unfold flt at h
    rw [if_neg (by omega), if_pos c1, if_pos c1] at h
    repeat' split at h
    all_goals omega
  · right
    have e1 : eR w a = a + 2 := if_neg c1
    have e2 : nR w a = kR w a := if_neg c1
    have e3 : zR w a = 0 := if_neg c1
    unfold flt at h
    rw [if_neg c1, if_neg c1] at h
    repeat' split at h
    all_goals omega
theorem flt_ge {w : Int → Int} {a : Int} : flt w a = -1 ∨ a ≤ flt w a := by
  unfold flt
  repeat' split
  all_goals omega
theorem flt_lo {w : Int → Int} {a : Int} (c : ¬ (w a = 122 ∨ w a = 114 ∨ w a = 97)) : flt w a = a := if_pos c
theorem flt_k {w : Int → Int} {a : Int} (c : w a = 122 ∧ (kR w a < 1 ∨ 5 < kR w a) ∨ w a = 114 ∧ (kR w a < 2 ∨ 9 < kR w a) ∨ w a = 97 ∧ (kR w a < 3 ∨ 9 < kR w a)) : flt w a = a + 1 := by
  unfold flt
  repeat' split
  all_goals omega
theorem flt_r {w : Int → Int} {a : Int} (c : w a = 114 ∧ 2 ≤ kR w a ∧ kR w a ≤ 9 ∨ w a = 97 ∧ 3 ≤ kR w a ∧ kR w a ≤ 9) : flt w a = -1 := by
  unfold flt
  repeat' split
  all_goals omega
theorem flt_z {w : Int → Int} {a : Int} (c1 : w a = 122) (c2 : 1 ≤ kR w a ∧ kR w a ≤ 5) : flt w a = if w (a + 2) ≠ 47 then a + 2 else if nR w a < kR w a ∨ 5 < nR w a then a + 3 else if w (a + 4) ≠ 62 then a + 4 else if zR w a < 0 ∨ 3 < zR w a then a + 5 else -1 := by
  unfold flt
  rw [if_neg (by omega), if_pos c1, if_pos c1, if_neg (by omega), if_neg (by omega)]
def sho (w : Int → Int) (c : Int) : Nat → Int
  | 0 => 99
  | r + 1 => if w (pos w r) = c ∧ kR w (pos w r) < sho w c r then kR w (pos w r) else sho w c r
def wdt (w : Int → Int) : Nat → Int
  | 0 => 0
  | r + 1 => if w (pos w r) = 122 ∧ wdt w r < nR w (pos w r) then nR w (pos w r) else wdt w r
def gst (w : Int → Int) (r i : Nat) : Nat := if i < r ∧ w (pos w i) = 122 then (128 - kR w (pos w i)).toNat else 0
def gab (w : Int → Int) (r s i : Nat) : Nat := if i < r ∧ w (pos w i) = 122 ∧ 4 ≤ s ∧ s ≤ 7 ∧ zR w (pos w i) ≤ (s : Int) - 4 then 1 else 0
def gbl (w : Int → Int) (r s i : Nat) : Nat := if i < r ∧ w (pos w i) = 122 ∧ s ≤ 3 ∧ zR w (pos w i) ≤ 3 - (s : Int) then 1 else 0
def gsl (w : Int → Int) (r a i : Nat) : Nat := if i < r ∧ w (pos w i) = 122 ∧ (a : Int) < nR w (pos w i) then 255 else 0
/-- the cells from Z on hold r rules -/
def ZR (Z : Nat) (h : HP) (w : Int → Int) (r : Nat) : Prop := h Z 3 = lg (pkH (gst w r) 8) ∧ h Z 4 = wdt w r ∧ (∀ s : Nat, s < 9 → h (Z + 1) s = lg (pkH (gab w r s) 8) ∧ h (Z + 2) s = lg (pkH (gbl w r s) 8)) ∧ ∀ a : Nat, a < 5 → h (Z + 3) a = lg (pkH (gsl w r a) 8)
def PS (T : Nat) (h : HP) (w : Int → Int) (r : Nat) : Prop := (∀ i : Nat, i < r → h (T + 2) i = w (pos w i) ∧ h (T + 3) i = kR w (pos w i)) ∧ h T 7 = sho w 114 r ∧ h T 8 = sho w 97 r ∧ ZR (T + 4) h w r
def fZ (Z : Nat) (a : Nat) (j : Int) : Prop := (a = Z ∧ (j = 3 ∨ j = 4)) ∨ (Z + 1 ≤ a ∧ a ≤ Z + 3)
def fTx (T : Nat) (a : Nat) (j : Int) : Prop := (a = T ∧ 5 ≤ j ∧ j ≤ 8) ∨ (T + 2 ≤ a ∧ a ≤ T + 3) ∨ (a = T + 4 ∧ (j = 3 ∨ j = 4)) ∨ (T + 5 ≤ a ∧ a ≤ T + 7)
theorem gst_lt {w : Int → Int} {r : Nat} (H : ∀ i : Nat, i < r → w (pos w i) = 122 → 1 ≤ kR w (pos w i)) (i : Nat) : gst w r i < 256 := by
  unfold gst
  split
  · have := H i (by omega) (by omega); omega
  · omega
theorem gab_lt {w : Int → Int} {r s : Nat} (i : Nat) : gab w r s i < 256 := by unfold gab; split <;> omega
theorem gbl_lt {w : Int → Int} {r s : Nat} (i : Nat) : gbl w r s i < 256 := by unfold gbl; split <;> omega
theorem gsl_lt {w : Int → Int} {r a : Nat} (i : Nat) : gsl w r a i < 256 := by unfold gsl; split <;> omega
theorem or0 (x : Nat) : x ||| 0 = x := Nat.or_zero x
/-- one more byte comes into a long -/
theorem pk_set {g : Nat → Nat} {r v : Nat} (H : ∀ i, g i < 256) (hv : v < 256) (hr : r < 8) (h0 : g r = 0) : (i64 (lg (pkH g 8)) ||| i64 ((i64 (lg v) <<< ((i32 ((8 * r : Nat) : Int)).toInt64 &&& 63)).toInt)).toInt = lg (pkH (fun i => if i = r then v else g i) 8) := by
  rw [lg_shl hr, lg_or, ← pkH_one hr, pkH_or H (fun i => by split <;> omega)]
  refine congrArg lg (pkH_cg fun i _ => ?_)
  by_cases e : i = r
  · rw [if_pos e, if_pos e, e, h0, Nat.zero_or]
  · rw [if_neg e, if_neg e, or0]
section
variable {X : Nat × (Int → Int)} {Q : bQ}
theorem K244_49 {h0 : HP} {w : Int → Int} : Wp X 0 244 0 [vr 49, vu] [] h0 (fun r h => r = none ∧ Fr (fZ 49) h0 h ∧ ZR 49 h w 0) := by
  have z1 : ∀ s : Nat, lg (pkH (gab w 0 s) 8) = 0 := fun s => by
    rw [pkH_cg (g' := fun _ => 0) (fun i _ => by unfold gab; rw [if_neg (by omega)]), pkH_0]; rfl
  have z2 : ∀ s : Nat, lg (pkH (gbl w 0 s) 8) = 0 := fun s => by
    rw [pkH_cg (g' := fun _ => 0) (fun i _ => by unfold gbl; rw [if_neg (by omega)]), pkH_0]; rfl
  have z3 : ∀ s : Nat, lg (pkH (gsl w 0 s) 8) = 0 := fun s => by
    rw [pkH_cg (g' := fun _ => 0) (fun i _ => by unfold gsl; rw [if_neg (by omega)]), pkH_0]; rfl
  have z4 : lg (pkH (gst w 0) 8) = 0 := by
    rw [pkH_cg (g' := fun _ => 0) (fun i _ => by unfold gst; rw [if_neg (by omega)]), pkH_0]; rfl
  have L2 : ∀ (k n : Nat) (h : HP), n + k = 5 → Fr (fZ 49) h0 h → (∀ s : Nat, s < 9 → h 50 s = 0 ∧ h 51 s = 0) → (∀ a : Nat, a < n → h 52 a = 0) → Wp X 0 244 30 [vr 49, vi n] [] h (fun r h => r = none ∧ Fr (fZ 49) h0 h ∧ ZR 49 h w 0) := by
    intro k
    induction k with
    | zero =>
      intro n h hn F a1 a2
      refine S244_49_30 _ ⟨fun _ => ⟨rfl, (F.up (.inl ⟨rfl, .inl rfl⟩)).up (.inl ⟨rfl, .inr rfl⟩), ?_, upd2_s, fun s hs => ?_, fun a ha => ?_⟩, fun e => absurd e (by omega)⟩
      · rw [upd2_o (by decide), upd2_s, z4]
      · rw [z1, z2, upd2_ne (by decide), upd2_ne (by decide), upd2_ne (by decide), upd2_ne (by decide)]; exact a1 s hs
      · rw [z3, upd2_ne (by decide), upd2_ne (by decide)]; exact a2 a (by omega)
    | succ k ih =>
      intro n h hn F a1 a2
      refine S244_49_30 _ ⟨fun e => absurd e (by omega), fun _ => ⟨⟨by omega, by omega⟩, ih (n + 1) _ (by omega) (F.up (.inr (by decide))) (fun s hs => ?_) (fun a ha => ?_)⟩⟩
      · rw [upd2_ne (by decide), upd2_ne (by decide)]; exact a1 s hs
      · rw [upd2_at]
        split
        · rfl
        · exact a2 a (by omega)
  have L1 : ∀ (k n : Nat) (h : HP), n + k = 9 → Fr (fZ 49) h0 h → (∀ s : Nat, s < n → h 50 s = 0 ∧ h 51 s = 0) → Wp X 0 244 2 [vr 49, vi n] [] h (fun r h => r = none ∧ Fr (fZ 49) h0 h ∧ ZR 49 h w 0) := by
    intro k
    induction k with
    | zero =>
      intro n h hn F a1
      exact S244_49_2 _ ⟨fun _ => L2 5 0 h rfl F (fun s hs => a1 s (by omega)) (fun a ha => absurd ha (Nat.not_lt_zero a)), fun e => absurd e (by omega)⟩
    | succ k ih =>
      intro n h hn F a1
      refine S244_49_2 _ ⟨fun e => absurd e (by omega), fun _ => ⟨⟨by omega, by omega⟩, ih (n + 1) _ (by omega) ((F.up (.inr (by decide))).up (.inr (by decide))) (fun s hs => ?_)⟩⟩
      rw [upd2_ne (a := 51) (b := 50) (by decide), upd2_at, upd2_at, upd2_ne (a := 50) (b := 51) (by decide)]
      by_cases e : s = n
      · rw [if_pos (by omega), if_pos (by omega)]; exact ⟨rfl, rfl⟩
      · rw [if_neg (by omega), if_neg (by omega)]; exact a1 s (by omega)
  exact S244_49_0 (L1 9 0 h0 rfl Fr.rf (fun s hs => absurd hs (Nat.not_lt_zero s)))
theorem K211_45 {h0 : HP} {w : Int → Int} : Wp X 1 211 0 [vr 45] [] h0 (fun r h => r = none ∧ Fr (fTx 45) h0 h ∧ h 45 6 = -1 ∧ h 45 5 = 0 ∧ PS 45 h w 0) := by
  refine S211_45_0 ((K244_49 (w := w)).mono fun v h1 _ e => ?_)
  obtain ⟨rfl, F1, z⟩ := e
  refine S211_45_29 _ ⟨rfl, ?_, ?_, ?_, fun i hi => absurd hi (Nat.not_lt_zero i), ?_, ?_, z⟩
  · exact ((((Fr.rf.up (.inl ⟨rfl, by decide, by decide⟩)).up (.inl ⟨rfl, by decide, by decide⟩)).up (.inl ⟨rfl, by decide, by decide⟩)).up (.inl ⟨rfl, by decide, by decide⟩)).tr (F1.mo fun a j c => by unfold fZ at c; unfold fTx; omega)
  · rw [F1 _ _ (by unfold fZ; omega), upd2_o (by decide), upd2_o (by decide), upd2_s]
  · rw [F1 _ _ (by unfold fZ; omega), upd2_o (by decide), upd2_o (by decide), upd2_o (by decide), upd2_s]
  · rw [F1 _ _ (by unfold fZ; omega), upd2_o (by decide), upd2_s]; rfl
  · rw [F1 _ _ (by unfold fZ; omega), upd2_s]; rfl
theorem K245_49 {h0 : HP} {w : Int → Int} {r : Nat} (hr : r < 8) (hk : ∀ i : Nat, i ≤ r → w (pos w i) = 122 → 1 ≤ kR w (pos w i)) (h122 : w (pos w r) = 122) (k5 : kR w (pos w r) ≤ 5) (n5 : 1 ≤ nR w (pos w r) ∧ nR w (pos w r) ≤ 5) (z3 : 0 ≤ zR w (pos w r) ∧ zR w (pos w r) ≤ 3) (z : ZR 49 h0 w r) : Wp X 1 245 0 [vr 49, vi r, vi (kR w (pos w r)), vi (nR w (pos w r)), vi (zR w (pos w r)), vu, vu] [] h0 (fun v h => v = none ∧ Fr (fZ 49) h0 h ∧ ZR 49 h w (r + 1)) := by
  have e8 : 8 * (r : Int) = ((8 * r : Nat) : Int) := by omega
  have hk1 := hk r (Nat.le_refl _) h122
  generalize hK : kR w (pos w r) = K at *
  generalize hN : nR w (pos w r) = N at *
  generalize hZ : zR w (pos w r) = zz at *
  have gz : ∀ {f : Nat → Nat → Nat}, True := fun {_} => trivial
  have ga0 : ∀ s : Nat, gab w r s r = 0 := fun s => if_neg (by omega)
  have gb0 : ∀ s : Nat, gbl w r s r = 0 := fun s => if_neg (by omega)
  have gs0 : ∀ a : Nat, gsl w r a r = 0 := fun a => if_neg (by omega)
  have gt0 : gst w r r = 0 := if_neg (by omega)
  have ga1 : ∀ s i : Nat, gab w (r + 1) s i = if i = r then (if 4 ≤ s ∧ s ≤ 7 ∧ zz ≤ (s : Int) - 4 then 1 else 0) else gab w r s i := by
    intro s i
    by_cases e : i = r
    · rw [if_pos e, e]; unfold gab; rw [hZ]
      by_cases q : 4 ≤ s ∧ s ≤ 7 ∧ zz ≤ (s : Int) - 4
      · rw [if_pos q, if_pos ⟨by omega, h122, q⟩]
      · rw [if_neg q, if_neg (fun c => q c.2.2)]
    · rw [if_neg e]; unfold gab
      by_cases q : i < r ∧ w (pos w i) = 122 ∧ 4 ≤ s ∧ s ≤ 7 ∧ zR w (pos w i) ≤ (s : Int) - 4
      · rw [if_pos q, if_pos ⟨by omega, q.2⟩]
      · rw [if_neg q, if_neg (fun c => q ⟨by omega, c.2⟩)]
  have gb1 : ∀ s i : Nat, gbl w (r + 1) s i = if i = r then (if s ≤ 3 ∧ zz ≤ 3 - (s : Int) then 1 else 0) else gbl w r s i := by
    intro s i
    by_cases e : i = r
    · rw [if_pos e, e]; unfold gbl; rw [hZ]
      by_cases q : s ≤ 3 ∧ zz ≤ 3 - (s : Int)
      · rw [if_pos q, if_pos ⟨by omega, h122, q⟩]
      · rw [if_neg q, if_neg (fun c => q c.2.2)]
    · rw [if_neg e]; unfold gbl
      by_cases q : i < r ∧ w (pos w i) = 122 ∧ s ≤ 3 ∧ zR w (pos w i) ≤ 3 - (s : Int)
      · rw [if_pos q, if_pos ⟨by omega, q.2⟩]
      · rw [if_neg q, if_neg (fun c => q ⟨by omega, c.2⟩)]
  have gs1 : ∀ a i : Nat, gsl w (r + 1) a i = if i = r then (if (a : Int) < N then 255 else 0) else gsl w r a i := by
    intro a i
    by_cases e : i = r
    · rw [if_pos e, e]; unfold gsl; rw [hN]
      by_cases q : (a : Int) < N
      · rw [if_pos q, if_pos ⟨by omega, h122, q⟩]
      · rw [if_neg q, if_neg (fun c => q c.2.2)]
    · rw [if_neg e]; unfold gsl
      by_cases q : i < r ∧ w (pos w i) = 122 ∧ (a : Int) < nR w (pos w i)
      · rw [if_pos q, if_pos ⟨by omega, q.2⟩]
      · rw [if_neg q, if_neg (fun c => q ⟨by omega, c.2⟩)]
  have gt1 : ∀ i : Nat, gst w (r + 1) i = if i = r then (128 - K).toNat else gst w r i := by
    intro i
    by_cases e : i = r
    · rw [if_pos e, e]; unfold gst; rw [hK, if_pos ⟨by omega, h122⟩]
    · rw [if_neg e]; unfold gst
      by_cases q : i < r ∧ w (pos w i) = 122
      · rw [if_pos q, if_pos ⟨by omega, q.2⟩]
      · rw [if_neg q, if_neg (fun c => q ⟨by omega, c.2⟩)]
  have gtl : ∀ i, gst w r i < 256 := gst_lt (fun i hi q => hk i (by omega) q)
  have w1 : wdt w (r + 1) = if wdt w r < N then N else wdt w r := by
    show (if w (pos w r) = 122 ∧ wdt w r < nR w (pos w r) then nR w (pos w r) else wdt w r) = _
    rw [hN]
    by_cases q : wdt w r < N
    · rw [if_pos q, if_pos ⟨h122, q⟩]
    · rw [if_neg q, if_neg (fun c => q c.2)]
  have ek : 128 - K = lg (128 - K).toNat := by rw [lg_nat (by omega)]; omega
  have fin : ∀ (h : HP), Fr (fZ 49) h0 h → h 49 3 = lg (pkH (gst w r) 8) → h 49 4 = wdt w r → (∀ s : Nat, s < 9 → h 50 s = lg (pkH (gab w (r + 1) s) 8) ∧ h 51 s = lg (pkH (gbl w (r + 1) s) 8)) → (∀ a : Nat, a < 5 → h 52 a = lg (pkH (gsl w (r + 1) a) 8)) → ∀ wv : Int, wv = wdt w (r + 1) → (Fr (fZ 49) h0 (upd2 (upd2 h 49 3 ((i64 (h 49 3) ||| i64 ((i64 (128 - K) <<< ((i32 ((8 * r : Nat) : Int)).toInt64 &&& 63)).toInt)).toInt)) 49 4 wv) ∧ ZR 49 (upd2 (upd2 h 49 3 ((i64 (h 49 3) ||| i64 ((i64 (128 - K) <<< ((i32 ((8 * r : Nat) : Int)).toInt64 &&& 63)).toInt)).toInt)) 49 4 wv) w (r + 1)) := by
    intro h F e3 e4 a1 a2 wv ew
    refine ⟨(F.up (.inl ⟨rfl, .inl rfl⟩)).up (.inl ⟨rfl, .inr rfl⟩), ?_, by rw [upd2_s, ew], fun s hs => ?_, fun a ha => ?_⟩
    · rw [upd2_o (by decide), upd2_s, e3, ek, pk_set gtl (by omega) hr gt0]
      exact congrArg lg (pkH_cg fun i _ => (gt1 i).symm)
    · rw [upd2_ne (by decide), upd2_ne (by decide), upd2_ne (by decide), upd2_ne (by decide)]; exact a1 s hs
    · rw [upd2_ne (by decide), upd2_ne (by decide)]; exact a2 a ha
  have L2 : ∀ (k m : Nat) (h : HP) (z1 z4 : aV), (m : Int) + k = N → Fr (fZ 49) h0 h → h 49 3 = lg (pkH (gst w r) 8) → h 49 4 = wdt w r → (∀ s : Nat, s < 9 → h 50 s = lg (pkH (gab w (r + 1) s) 8) ∧ h 51 s = lg (pkH (gbl w (r + 1) s) 8)) → (∀ a : Nat, a < 5 → h 52 a = lg (pkH (fun i => if i = r then (if a < m then 255 else 0) else gsl w r a i) 8)) → Wp X 1 245 61 [vr 49, z1, vi K, vi N, z4, vi ((8 * r : Nat) : Int), vi m] [] h (fun v h => v = none ∧ Fr (fZ 49) h0 h ∧ ZR 49 h w (r + 1)) := by
    intro k
    induction k with
    | zero =>
      intro m h z1 z4 hm F e3 e4 a1 a2
      have a3 : ∀ a : Nat, a < 5 → h 52 a = lg (pkH (gsl w (r + 1) a) 8) := by
        intro a ha
        rw [a2 a ha]
        refine congrArg lg (pkH_cg fun i _ => ?_)
        rw [gs1]
        by_cases e : i = r
        · rw [if_pos e, if_pos e]
          by_cases q : a < m
          · rw [if_pos q, if_pos (by omega)]
          · rw [if_neg q, if_neg (by omega)]
        · rw [if_neg e, if_neg e]
      have g := fin h F e3 e4 a1 a3
      refine S245_49_61 _ _ _ _ _ _ ⟨fun _ => ⟨by unfold R64; omega, fun q => ⟨rfl, g N ?_⟩, fun q => ⟨rfl, g _ ?_⟩⟩, fun q => absurd q (by omega)⟩
      · rw [w1, if_pos (by omega)]
      · rw [w1, if_neg (by omega), e4]
    | succ k ih =>
      intro m h z1 z4 hm F e3 e4 a1 a2
      refine S245_49_61 _ _ _ _ _ _ ⟨fun q => absurd q (by omega), fun _ => ⟨fun q => absurd q (by omega), fun _ => ⟨⟨by omega, by omega⟩, ih (m + 1) _ _ _ (by omega) (F.up (.inr (by decide))) ?_ ?_ (fun s hs => ?_) (fun a ha => ?_)⟩⟩⟩
      · rw [upd2_ne (by decide)]; exact e3
      · rw [upd2_ne (by decide)]; exact e4
      · rw [upd2_ne (by decide), upd2_ne (by decide)]; exact a1 s hs
      · rw [upd2_at]
        by_cases q : a = m
        · rw [if_pos (by omega), ← q, a2 a ha]
          have hs := pk_set (g := fun i => if i = r then (if a < m then 255 else 0) else gsl w r a i) (r := r) (v := 255) (fun i => by
            have := gsl_lt (w := w) (r := r) (a := a) i
            repeat' split
            all_goals omega) (by omega) hr (by rw [if_pos rfl, if_neg (by omega)])
          refine hs.trans (congrArg lg (pkH_cg fun i _ => ?_))
          by_cases e : i = r
          · rw [if_pos e, if_pos e, if_pos (by omega)]
          · rw [if_neg e, if_neg e, if_neg e]
        · rw [if_neg (by omega), a2 a ha]
          refine congrArg lg (pkH_cg fun i _ => ?_)
          by_cases e : i = r
          · rw [if_pos e, if_pos e]
            by_cases q2 : a < m
            · rw [if_pos q2, if_pos (by omega)]
            · rw [if_neg q2, if_neg (by omega)]
          · rw [if_neg e, if_neg e]
  have L1 : ∀ (k m : Nat) (h : HP) (z1 z4 : aV), m + k = 4 → zz ≤ m → Fr (fZ 49) h0 h → h 49 3 = lg (pkH (gst w r) 8) → h 49 4 = wdt w r → (∀ s : Nat, s < 9 → h 50 s = lg (pkH (fun i => if i = r then (if 4 + zz ≤ s ∧ s < 4 + m then 1 else 0) else gab w r s i) 8) ∧ h 51 s = lg (pkH (fun i => if i = r then (if (s : Int) ≤ 3 - zz ∧ 3 < s + m then 1 else 0) else gbl w r s i) 8)) → (∀ a : Nat, a < 5 → h 52 a = lg (pkH (gsl w r a) 8)) → Wp X 1 245 14 [vr 49, z1, vi K, vi N, z4, vi ((8 * r : Nat) : Int), vi m] [] h (fun v h => v = none ∧ Fr (fZ 49) h0 h ∧ ZR 49 h w (r + 1)) := by
    intro k
    induction k with
    | zero =>
      intro m h z1 z4 hm hz F e3 e4 a1 a2
      refine S245_49_14 _ _ _ _ _ _ ⟨fun _ => L2 N.toNat 0 h _ _ (by omega) F e3 e4 (fun s hs => ?_) (fun a ha => ?_), fun q => absurd q (by omega)⟩
      · have a := a1 s hs
        refine ⟨a.1.trans (congrArg lg (pkH_cg fun i _ => ?_)), a.2.trans (congrArg lg (pkH_cg fun i _ => ?_))⟩
        · rw [ga1]
          by_cases e : i = r
          · rw [if_pos e, if_pos e]
            by_cases q : 4 + zz ≤ s ∧ s < 4 + m
            · rw [if_pos q, if_pos (by omega)]
            · rw [if_neg q, if_neg (by omega)]
          · rw [if_neg e, if_neg e]
        · rw [gb1]
          by_cases e : i = r
          · rw [if_pos e, if_pos e]
            by_cases q : (s : Int) ≤ 3 - zz ∧ 3 < s + m
            · rw [if_pos q, if_pos (by omega)]
            · rw [if_neg q, if_neg (by omega)]
          · rw [if_neg e, if_neg e]
      · rw [a2 a ha]
        refine congrArg lg (pkH_cg fun i _ => ?_)
        by_cases e : i = r
        · rw [if_pos e, if_neg (by omega), e, gs0]
        · rw [if_neg e]
    | succ k ih =>
      intro m h z1 z4 hm hz F e3 e4 a1 a2
      refine S245_49_14 _ _ _ _ _ _ ⟨fun q => absurd q (by omega), fun _ => ⟨by unfold R32; omega, ⟨by omega, by omega⟩, ih (m + 1) _ _ _ (by omega) (by omega) ((F.up (.inr (by decide))).up (.inr (by decide))) ?_ ?_ (fun s hs => ?_) (fun a ha => ?_)⟩⟩
      · rw [upd2_ne (by decide), upd2_ne (by decide)]; exact e3
      · rw [upd2_ne (by decide), upd2_ne (by decide)]; exact e4
      · rw [upd2_ne (a := 51) (b := 50) (by decide), upd2_at, upd2_at, upd2_ne (a := 50) (b := 51) (by decide)]
        constructor
        · by_cases q : s = 4 + m
          · rw [if_pos (by omega), show (4 : Int) + (m : Int) = (s : Int) by omega, (a1 s hs).1]
            have hs := pk_set (g := fun i => if i = r then (if 4 + zz ≤ s ∧ s < 4 + m then 1 else 0) else gab w r s i) (r := r) (v := 1) (fun i => by
              have := gab_lt (w := w) (r := r) (s := s) i
              repeat' split
              all_goals omega) (by omega) hr (by rw [if_pos rfl, if_neg (by omega)])
            refine hs.trans (congrArg lg (pkH_cg fun i _ => ?_))
            by_cases e : i = r
            · rw [if_pos e, if_pos e, if_pos (by omega)]
            · rw [if_neg e, if_neg e, if_neg e]
          · rw [if_neg (by omega), (a1 s hs).1]
            refine congrArg lg (pkH_cg fun i _ => ?_)
            by_cases e : i = r
            · rw [if_pos e, if_pos e]
              by_cases q2 : 4 + zz ≤ s ∧ s < 4 + m
              · rw [if_pos q2, if_pos (by omega)]
              · rw [if_neg q2, if_neg (by omega)]
            · rw [if_neg e, if_neg e]
        · by_cases q : s + m = 3
          · rw [if_pos (by omega), show (3 : Int) - (m : Int) = (s : Int) by omega, (a1 s hs).2]
            have hs := pk_set (g := fun i => if i = r then (if (s : Int) ≤ 3 - zz ∧ 3 < s + m then 1 else 0) else gbl w r s i) (r := r) (v := 1) (fun i => by
              have := gbl_lt (w := w) (r := r) (s := s) i
              repeat' split
              all_goals omega) (by omega) hr (by rw [if_pos rfl, if_neg (by omega)])
            refine hs.trans (congrArg lg (pkH_cg fun i _ => ?_))
            by_cases e : i = r
            · rw [if_pos e, if_pos e, if_pos (by omega)]
            · rw [if_neg e, if_neg e, if_neg e]
          · rw [if_neg (by omega), (a1 s hs).2]
            refine congrArg lg (pkH_cg fun i _ => ?_)
            by_cases e : i = r
            · rw [if_pos e, if_pos e]
              by_cases q2 : (s : Int) ≤ 3 - zz ∧ 3 < s + m
              · rw [if_pos q2, if_pos (by omega)]
              · rw [if_neg q2, if_neg (by omega)]
            · rw [if_neg e, if_neg e]
      · rw [upd2_ne (by decide), upd2_ne (by decide)]; exact a2 a ha
  have go := L1 (4 - zz.toNat) zz.toNat h0 (vi r) (vi zz) (by omega) (by omega) Fr.rf z.1 z.2.1 (fun s hs => by
    have a := z.2.2.1 s hs
    refine ⟨a.1.trans (congrArg lg (pkH_cg fun i _ => ?_)), a.2.trans (congrArg lg (pkH_cg fun i _ => ?_))⟩
    · by_cases e : i = r
      · rw [if_pos e, if_neg (by omega), e, ga0]
      · rw [if_neg e]
    · by_cases e : i = r
      · rw [if_pos e, if_neg (by omega), e, gb0]
      · rw [if_neg e]) z.2.2.2
  rw [show (zz.toNat : Int) = zz by omega] at go
  refine S245_49_0 _ _ _ _ ?_
  rw [e8]
  refine ⟨by unfold R32; omega, fun _ => go, fun q => ?_⟩
  rw [show zz = 0 by omega] at go ⊢
  exact go
theorem K244_57 {h0 : HP} {w : Int → Int} : Wp X 0 244 0 [vr 57, vu] [] h0 (fun r h => r = none ∧ Fr (fZ 57) h0 h ∧ ZR 57 h w 0) := by
  have z1 : ∀ s : Nat, lg (pkH (gab w 0 s) 8) = 0 := fun s => by
    rw [pkH_cg (g' := fun _ => 0) (fun i _ => by unfold gab; rw [if_neg (by omega)]), pkH_0]; rfl
  have z2 : ∀ s : Nat, lg (pkH (gbl w 0 s) 8) = 0 := fun s => by
    rw [pkH_cg (g' := fun _ => 0) (fun i _ => by unfold gbl; rw [if_neg (by omega)]), pkH_0]; rfl
  have z3 : ∀ s : Nat, lg (pkH (gsl w 0 s) 8) = 0 := fun s => by
    rw [pkH_cg (g' := fun _ => 0) (fun i _ => by unfold gsl; rw [if_neg (by omega)]), pkH_0]; rfl
  have z4 : lg (pkH (gst w 0) 8) = 0 := by
    rw [pkH_cg (g' := fun _ => 0) (fun i _ => by unfold gst; rw [if_neg (by omega)]), pkH_0]; rfl
  have L2 : ∀ (k n : Nat) (h : HP), n + k = 5 → Fr (fZ 57) h0 h → (∀ s : Nat, s < 9 → h 58 s = 0 ∧ h 59 s = 0) → (∀ a : Nat, a < n → h 60 a = 0) → Wp X 0 244 30 [vr 57, vi n] [] h (fun r h => r = none ∧ Fr (fZ 57) h0 h ∧ ZR 57 h w 0) := by
    intro k
    induction k with
    | zero =>
      intro n h hn F a1 a2
      refine S244_57_30 _ ⟨fun _ => ⟨rfl, (F.up (.inl ⟨rfl, .inl rfl⟩)).up (.inl ⟨rfl, .inr rfl⟩), ?_, upd2_s, fun s hs => ?_, fun a ha => ?_⟩, fun e => absurd e (by omega)⟩
      · rw [upd2_o (by decide), upd2_s, z4]
      · rw [z1, z2, upd2_ne (by decide), upd2_ne (by decide), upd2_ne (by decide), upd2_ne (by decide)]; exact a1 s hs
      · rw [z3, upd2_ne (by decide), upd2_ne (by decide)]; exact a2 a (by omega)
    | succ k ih =>
      intro n h hn F a1 a2
      refine S244_57_30 _ ⟨fun e => absurd e (by omega), fun _ => ⟨⟨by omega, by omega⟩, ih (n + 1) _ (by omega) (F.up (.inr (by decide))) (fun s hs => ?_) (fun a ha => ?_)⟩⟩
      · rw [upd2_ne (by decide), upd2_ne (by decide)]; exact a1 s hs
      · rw [upd2_at]
        split
        · rfl
        · exact a2 a (by omega)
  have L1 : ∀ (k n : Nat) (h : HP), n + k = 9 → Fr (fZ 57) h0 h → (∀ s : Nat, s < n → h 58 s = 0 ∧ h 59 s = 0) → Wp X 0 244 2 [vr 57, vi n] [] h (fun r h => r = none ∧ Fr (fZ 57) h0 h ∧ ZR 57 h w 0) := by
    intro k
    induction k with
    | zero =>
      intro n h hn F a1
      exact S244_57_2 _ ⟨fun _ => L2 5 0 h rfl F (fun s hs => a1 s (by omega)) (fun a ha => absurd ha (Nat.not_lt_zero a)), fun e => absurd e (by omega)⟩
    | succ k ih =>
      intro n h hn F a1
      refine S244_57_2 _ ⟨fun e => absurd e (by omega), fun _ => ⟨⟨by omega, by omega⟩, ih (n + 1) _ (by omega) ((F.up (.inr (by decide))).up (.inr (by decide))) (fun s hs => ?_)⟩⟩
      rw [upd2_ne (a := 59) (b := 58) (by decide), upd2_at, upd2_at, upd2_ne (a := 58) (b := 59) (by decide)]
      by_cases e : s = n
      · rw [if_pos (by omega), if_pos (by omega)]; exact ⟨rfl, rfl⟩
      · rw [if_neg (by omega), if_neg (by omega)]; exact a1 s (by omega)
  exact S244_57_0 (L1 9 0 h0 rfl Fr.rf (fun s hs => absurd hs (Nat.not_lt_zero s)))
theorem K211_53 {h0 : HP} {w : Int → Int} : Wp X 1 211 0 [vr 53] [] h0 (fun r h => r = none ∧ Fr (fTx 53) h0 h ∧ h 53 6 = -1 ∧ h 53 5 = 0 ∧ PS 53 h w 0) := by
  refine S211_53_0 ((K244_57 (w := w)).mono fun v h1 _ e => ?_)
  obtain ⟨rfl, F1, z⟩ := e
  refine S211_53_29 _ ⟨rfl, ?_, ?_, ?_, fun i hi => absurd hi (Nat.not_lt_zero i), ?_, ?_, z⟩
  · exact ((((Fr.rf.up (.inl ⟨rfl, by decide, by decide⟩)).up (.inl ⟨rfl, by decide, by decide⟩)).up (.inl ⟨rfl, by decide, by decide⟩)).up (.inl ⟨rfl, by decide, by decide⟩)).tr (F1.mo fun a j c => by unfold fZ at c; unfold fTx; omega)
  · rw [F1 _ _ (by unfold fZ; omega), upd2_o (by decide), upd2_o (by decide), upd2_s]
  · rw [F1 _ _ (by unfold fZ; omega), upd2_o (by decide), upd2_o (by decide), upd2_o (by decide), upd2_s]
  · rw [F1 _ _ (by unfold fZ; omega), upd2_o (by decide), upd2_s]; rfl
  · rw [F1 _ _ (by unfold fZ; omega), upd2_s]; rfl
theorem K245_57 {h0 : HP} {w : Int → Int} {r : Nat} (hr : r < 8) (hk : ∀ i : Nat, i ≤ r → w (pos w i) = 122 → 1 ≤ kR w (pos w i)) (h122 : w (pos w r) = 122) (k5 : kR w (pos w r) ≤ 5) (n5 : 1 ≤ nR w (pos w r) ∧ nR w (pos w r) ≤ 5) (z3 : 0 ≤ zR w (pos w r) ∧ zR w (pos w r) ≤ 3) (z : ZR 57 h0 w r) : Wp X 1 245 0 [vr 57, vi r, vi (kR w (pos w r)), vi (nR w (pos w r)), vi (zR w (pos w r)), vu, vu] [] h0 (fun v h => v = none ∧ Fr (fZ 57) h0 h ∧ ZR 57 h w (r + 1)) := by
  have e8 : 8 * (r : Int) = ((8 * r : Nat) : Int) := by omega
  have hk1 := hk r (Nat.le_refl _) h122
  generalize hK : kR w (pos w r) = K at *
  generalize hN : nR w (pos w r) = N at *
  generalize hZ : zR w (pos w r) = zz at *
  have gz : ∀ {f : Nat → Nat → Nat}, True := fun {_} => trivial
  have ga0 : ∀ s : Nat, gab w r s r = 0 := fun s => if_neg (by omega)
  have gb0 : ∀ s : Nat, gbl w r s r = 0 := fun s => if_neg (by omega)
  have gs0 : ∀ a : Nat, gsl w r a r = 0 := fun a => if_neg (by omega)
  have gt0 : gst w r r = 0 := if_neg (by omega)
  have ga1 : ∀ s i : Nat, gab w (r + 1) s i = if i = r then (if 4 ≤ s ∧ s ≤ 7 ∧ zz ≤ (s : Int) - 4 then 1 else 0) else gab w r s i := by
    intro s i
    by_cases e : i = r
    · rw [if_pos e, e]; unfold gab; rw [hZ]
      by_cases q : 4 ≤ s ∧ s ≤ 7 ∧ zz ≤ (s : Int) - 4
      · rw [if_pos q, if_pos ⟨by omega, h122, q⟩]
      · rw [if_neg q, if_neg (fun c => q c.2.2)]
    · rw [if_neg e]; unfold gab
      by_cases q : i < r ∧ w (pos w i) = 122 ∧ 4 ≤ s ∧ s ≤ 7 ∧ zR w (pos w i) ≤ (s : Int) - 4
      · rw [if_pos q, if_pos ⟨by omega, q.2⟩]
      · rw [if_neg q, if_neg (fun c => q ⟨by omega, c.2⟩)]
  have gb1 : ∀ s i : Nat, gbl w (r + 1) s i = if i = r then (if s ≤ 3 ∧ zz ≤ 3 - (s : Int) then 1 else 0) else gbl w r s i := by
    intro s i
    by_cases e : i = r
    · rw [if_pos e, e]; unfold gbl; rw [hZ]
      by_cases q : s ≤ 3 ∧ zz ≤ 3 - (s : Int)
      · rw [if_pos q, if_pos ⟨by omega, h122, q⟩]
      · rw [if_neg q, if_neg (fun c => q c.2.2)]
    · rw [if_neg e]; unfold gbl
      by_cases q : i < r ∧ w (pos w i) = 122 ∧ s ≤ 3 ∧ zR w (pos w i) ≤ 3 - (s : Int)
      · rw [if_pos q, if_pos ⟨by omega, q.2⟩]
      · rw [if_neg q, if_neg (fun c => q ⟨by omega, c.2⟩)]
  have gs1 : ∀ a i : Nat, gsl w (r + 1) a i = if i = r then (if (a : Int) < N then 255 else 0) else gsl w r a i := by
    intro a i
    by_cases e : i = r
    · rw [if_pos e, e]; unfold gsl; rw [hN]
      by_cases q : (a : Int) < N
      · rw [if_pos q, if_pos ⟨by omega, h122, q⟩]
      · rw [if_neg q, if_neg (fun c => q c.2.2)]
    · rw [if_neg e]; unfold gsl
      by_cases q : i < r ∧ w (pos w i) = 122 ∧ (a : Int) < nR w (pos w i)
      · rw [if_pos q, if_pos ⟨by omega, q.2⟩]
      · rw [if_neg q, if_neg (fun c => q ⟨by omega, c.2⟩)]
  have gt1 : ∀ i : Nat, gst w (r + 1) i = if i = r then (128 - K).toNat else gst w r i := by
    intro i
    by_cases e : i = r
    · rw [if_pos e, e]; unfold gst; rw [hK, if_pos ⟨by omega, h122⟩]
    · rw [if_neg e]; unfold gst
      by_cases q : i < r ∧ w (pos w i) = 122
      · rw [if_pos q, if_pos ⟨by omega, q.2⟩]
      · rw [if_neg q, if_neg (fun c => q ⟨by omega, c.2⟩)]
  have gtl : ∀ i, gst w r i < 256 := gst_lt (fun i hi q => hk i (by omega) q)
  have w1 : wdt w (r + 1) = if wdt w r < N then N else wdt w r := by
    show (if w (pos w r) = 122 ∧ wdt w r < nR w (pos w r) then nR w (pos w r) else wdt w r) = _
    rw [hN]
    by_cases q : wdt w r < N
    · rw [if_pos q, if_pos ⟨h122, q⟩]
    · rw [if_neg q, if_neg (fun c => q c.2)]
  have ek : 128 - K = lg (128 - K).toNat := by rw [lg_nat (by omega)]; omega
  have fin : ∀ (h : HP), Fr (fZ 57) h0 h → h 57 3 = lg (pkH (gst w r) 8) → h 57 4 = wdt w r → (∀ s : Nat, s < 9 → h 58 s = lg (pkH (gab w (r + 1) s) 8) ∧ h 59 s = lg (pkH (gbl w (r + 1) s) 8)) → (∀ a : Nat, a < 5 → h 60 a = lg (pkH (gsl w (r + 1) a) 8)) → ∀ wv : Int, wv = wdt w (r + 1) → (Fr (fZ 57) h0 (upd2 (upd2 h 57 3 ((i64 (h 57 3) ||| i64 ((i64 (128 - K) <<< ((i32 ((8 * r : Nat) : Int)).toInt64 &&& 63)).toInt)).toInt)) 57 4 wv) ∧ ZR 57 (upd2 (upd2 h 57 3 ((i64 (h 57 3) ||| i64 ((i64 (128 - K) <<< ((i32 ((8 * r : Nat) : Int)).toInt64 &&& 63)).toInt)).toInt)) 57 4 wv) w (r + 1)) := by
    intro h F e3 e4 a1 a2 wv ew
    refine ⟨(F.up (.inl ⟨rfl, .inl rfl⟩)).up (.inl ⟨rfl, .inr rfl⟩), ?_, by rw [upd2_s, ew], fun s hs => ?_, fun a ha => ?_⟩
    · rw [upd2_o (by decide), upd2_s, e3, ek, pk_set gtl (by omega) hr gt0]
      exact congrArg lg (pkH_cg fun i _ => (gt1 i).symm)
    · rw [upd2_ne (by decide), upd2_ne (by decide), upd2_ne (by decide), upd2_ne (by decide)]; exact a1 s hs
    · rw [upd2_ne (by decide), upd2_ne (by decide)]; exact a2 a ha
  have L2 : ∀ (k m : Nat) (h : HP) (z1 z4 : aV), (m : Int) + k = N → Fr (fZ 57) h0 h → h 57 3 = lg (pkH (gst w r) 8) → h 57 4 = wdt w r → (∀ s : Nat, s < 9 → h 58 s = lg (pkH (gab w (r + 1) s) 8) ∧ h 59 s = lg (pkH (gbl w (r + 1) s) 8)) → (∀ a : Nat, a < 5 → h 60 a = lg (pkH (fun i => if i = r then (if a < m then 255 else 0) else gsl w r a i) 8)) → Wp X 1 245 61 [vr 57, z1, vi K, vi N, z4, vi ((8 * r : Nat) : Int), vi m] [] h (fun v h => v = none ∧ Fr (fZ 57) h0 h ∧ ZR 57 h w (r + 1)) := by
    intro k
    induction k with
    | zero =>
      intro m h z1 z4 hm F e3 e4 a1 a2
      have a3 : ∀ a : Nat, a < 5 → h 60 a = lg (pkH (gsl w (r + 1) a) 8) := by
        intro a ha
        rw [a2 a ha]
        refine congrArg lg (pkH_cg fun i _ => ?_)
        rw [gs1]
        by_cases e : i = r
        · rw [if_pos e, if_pos e]
          by_cases q : a < m
          · rw [if_pos q, if_pos (by omega)]
          · rw [if_neg q, if_neg (by omega)]
        · rw [if_neg e, if_neg e]
      have g := fin h F e3 e4 a1 a3
      refine S245_57_61 _ _ _ _ _ _ ⟨fun _ => ⟨by unfold R64; omega, fun q => ⟨rfl, g N ?_⟩, fun q => ⟨rfl, g _ ?_⟩⟩, fun q => absurd q (by omega)⟩
      · rw [w1, if_pos (by omega)]
      · rw [w1, if_neg (by omega), e4]
    | succ k ih =>
      intro m h z1 z4 hm F e3 e4 a1 a2
      refine S245_57_61 _ _ _ _ _ _ ⟨fun q => absurd q (by omega), fun _ => ⟨fun q => absurd q (by omega), fun _ => ⟨⟨by omega, by omega⟩, ih (m + 1) _ _ _ (by omega) (F.up (.inr (by decide))) ?_ ?_ (fun s hs => ?_) (fun a ha => ?_)⟩⟩⟩
      · rw [upd2_ne (by decide)]; exact e3
      · rw [upd2_ne (by decide)]; exact e4
      · rw [upd2_ne (by decide), upd2_ne (by decide)]; exact a1 s hs
      · rw [upd2_at]
        by_cases q : a = m
        · rw [if_pos (by omega), ← q, a2 a ha]
          have hs := pk_set (g := fun i => if i = r then (if a < m then 255 else 0) else gsl w r a i) (r := r) (v := 255) (fun i => by
            have := gsl_lt (w := w) (r := r) (a := a) i
            repeat' split
            all_goals omega) (by omega) hr (by rw [if_pos rfl, if_neg (by omega)])
          refine hs.trans (congrArg lg (pkH_cg fun i _ => ?_))
          by_cases e : i = r
          · rw [if_pos e, if_pos e, if_pos (by omega)]
          · rw [if_neg e, if_neg e, if_neg e]
        · rw [if_neg (by omega), a2 a ha]
          refine congrArg lg (pkH_cg fun i _ => ?_)
          by_cases e : i = r
          · rw [if_pos e, if_pos e]
            by_cases q2 : a < m
            · rw [if_pos q2, if_pos (by omega)]
            · rw [if_neg q2, if_neg (by omega)]
          · rw [if_neg e, if_neg e]
  have L1 : ∀ (k m : Nat) (h : HP) (z1 z4 : aV), m + k = 4 → zz ≤ m → Fr (fZ 57) h0 h → h 57 3 = lg (pkH (gst w r) 8) → h 57 4 = wdt w r → (∀ s : Nat, s < 9 → h 58 s = lg (pkH (fun i => if i = r then (if 4 + zz ≤ s ∧ s < 4 + m then 1 else 0) else gab w r s i) 8) ∧ h 59 s = lg (pkH (fun i => if i = r then (if (s : Int) ≤ 3 - zz ∧ 3 < s + m then 1 else 0) else gbl w r s i) 8)) → (∀ a : Nat, a < 5 → h 60 a = lg (pkH (gsl w r a) 8)) → Wp X 1 245 14 [vr 57, z1, vi K, vi N, z4, vi ((8 * r : Nat) : Int), vi m] [] h (fun v h => v = none ∧ Fr (fZ 57) h0 h ∧ ZR 57 h w (r + 1)) := by
    intro k
    induction k with
    | zero =>
      intro m h z1 z4 hm hz F e3 e4 a1 a2
      refine S245_57_14 _ _ _ _ _ _ ⟨fun _ => L2 N.toNat 0 h _ _ (by omega) F e3 e4 (fun s hs => ?_) (fun a ha => ?_), fun q => absurd q (by omega)⟩
      · have a := a1 s hs
        refine ⟨a.1.trans (congrArg lg (pkH_cg fun i _ => ?_)), a.2.trans (congrArg lg (pkH_cg fun i _ => ?_))⟩
        · rw [ga1]
          by_cases e : i = r
          · rw [if_pos e, if_pos e]
            by_cases q : 4 + zz ≤ s ∧ s < 4 + m
            · rw [if_pos q, if_pos (by omega)]
            · rw [if_neg q, if_neg (by omega)]
          · rw [if_neg e, if_neg e]
        · rw [gb1]
          by_cases e : i = r
          · rw [if_pos e, if_pos e]
            by_cases q : (s : Int) ≤ 3 - zz ∧ 3 < s + m
            · rw [if_pos q, if_pos (by omega)]
            · rw [if_neg q, if_neg (by omega)]
          · rw [if_neg e, if_neg e]
      · rw [a2 a ha]
        refine congrArg lg (pkH_cg fun i _ => ?_)
        by_cases e : i = r
        · rw [if_pos e, if_neg (by omega), e, gs0]
        · rw [if_neg e]
    | succ k ih =>
      intro m h z1 z4 hm hz F e3 e4 a1 a2
      refine S245_57_14 _ _ _ _ _ _ ⟨fun q => absurd q (by omega), fun _ => ⟨by unfold R32; omega, ⟨by omega, by omega⟩, ih (m + 1) _ _ _ (by omega) (by omega) ((F.up (.inr (by decide))).up (.inr (by decide))) ?_ ?_ (fun s hs => ?_) (fun a ha => ?_)⟩⟩
      · rw [upd2_ne (by decide), upd2_ne (by decide)]; exact e3
      · rw [upd2_ne (by decide), upd2_ne (by decide)]; exact e4
      · rw [upd2_ne (a := 59) (b := 58) (by decide), upd2_at, upd2_at, upd2_ne (a := 58) (b := 59) (by decide)]
        constructor
        · by_cases q : s = 4 + m
          · rw [if_pos (by omega), show (4 : Int) + (m : Int) = (s : Int) by omega, (a1 s hs).1]
            have hs := pk_set (g := fun i => if i = r then (if 4 + zz ≤ s ∧ s < 4 + m then 1 else 0) else gab w r s i) (r := r) (v := 1) (fun i => by
              have := gab_lt (w := w) (r := r) (s := s) i
              repeat' split
              all_goals omega) (by omega) hr (by rw [if_pos rfl, if_neg (by omega)])
            refine hs.trans (congrArg lg (pkH_cg fun i _ => ?_))
            by_cases e : i = r
            · rw [if_pos e, if_pos e, if_pos (by omega)]
            · rw [if_neg e, if_neg e, if_neg e]
          · rw [if_neg (by omega), (a1 s hs).1]
            refine congrArg lg (pkH_cg fun i _ => ?_)
            by_cases e : i = r
            · rw [if_pos e, if_pos e]
              by_cases q2 : 4 + zz ≤ s ∧ s < 4 + m
              · rw [if_pos q2, if_pos (by omega)]
              · rw [if_neg q2, if_neg (by omega)]
            · rw [if_neg e, if_neg e]
        · by_cases q : s + m = 3
          · rw [if_pos (by omega), show (3 : Int) - (m : Int) = (s : Int) by omega, (a1 s hs).2]
            have hs := pk_set (g := fun i => if i = r then (if (s : Int) ≤ 3 - zz ∧ 3 < s + m then 1 else 0) else gbl w r s i) (r := r) (v := 1) (fun i => by
              have := gbl_lt (w := w) (r := r) (s := s) i
              repeat' split
              all_goals omega) (by omega) hr (by rw [if_pos rfl, if_neg (by omega)])
            refine hs.trans (congrArg lg (pkH_cg fun i _ => ?_))
            by_cases e : i = r
            · rw [if_pos e, if_pos e, if_pos (by omega)]
            · rw [if_neg e, if_neg e, if_neg e]
          · rw [if_neg (by omega), (a1 s hs).2]
            refine congrArg lg (pkH_cg fun i _ => ?_)
            by_cases e : i = r
            · rw [if_pos e, if_pos e]
              by_cases q2 : (s : Int) ≤ 3 - zz ∧ 3 < s + m
              · rw [if_pos q2, if_pos (by omega)]
              · rw [if_neg q2, if_neg (by omega)]
            · rw [if_neg e, if_neg e]
      · rw [upd2_ne (by decide), upd2_ne (by decide)]; exact a2 a ha
  have go := L1 (4 - zz.toNat) zz.toNat h0 (vi r) (vi zz) (by omega) (by omega) Fr.rf z.1 z.2.1 (fun s hs => by
    have a := z.2.2.1 s hs
    refine ⟨a.1.trans (congrArg lg (pkH_cg fun i _ => ?_)), a.2.trans (congrArg lg (pkH_cg fun i _ => ?_))⟩
    · by_cases e : i = r
      · rw [if_pos e, if_neg (by omega), e, ga0]
      · rw [if_neg e]
    · by_cases e : i = r
      · rw [if_pos e, if_neg (by omega), e, gb0]
      · rw [if_neg e]) z.2.2.2
  rw [show (zz.toNat : Int) = zz by omega] at go
  refine S245_57_0 _ _ _ _ ?_
  rw [e8]
  refine ⟨by unfold R32; omega, fun _ => go, fun q => ?_⟩
  rw [show zz = 0 by omega] at go ⊢
  exact go
end
