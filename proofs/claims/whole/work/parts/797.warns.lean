-- ===== the reference's reads(); which rules a group warns by =====
section
variable {X : Nat × (Int → Int)} {b : HP}
theorem L92 {t : Int} {w : Int → Int} {len : Int} {h0 : HP} (ht : 0 ≤ t ∧ t < 2) (x : Xok b) (hw : w = Wt b t) (hl : len = b 104 t) : ∀ (k r : Nat) (h : HP), r + k = 8 → rdF w len k (pos w r) = FA w len → r + rdN w len k (pos w r) = NRu w len → 0 ≤ pos w r → P h = P b → Fr fRd h0 h → h 89 23 = pos w r → MS h w r → (∀ i : Nat, i < r → flt w (pos w i) = -1 ∧ 0 ≤ pos w i) → Wp X 3 92 25 [vr 89, vi t, vi 1] [] h (fun v h' => v = some (vi (FA w len)) ∧ P h' = P b ∧ Fr fRd h0 h' ∧ (FA w len = -1 → MS h' w (NRu w len) ∧ NRu w len ≤ 8 ∧ ∀ i : Nat, i < NRu w len → flt w (pos w i) = -1 ∧ 0 ≤ pos w i) ∧ ∃ r : Nat, r ≤ 8 ∧ h' 89 24 = r) := by
  intro k
  induction k with
  | zero =>
    intro r h hr hF hN ha hP F e23 m ok
    have hr8 : r = 8 := by omega
    refine S92_89_25 _ _ ⟨fun q => absurd q (by decide), fun _ => (K91_8 ht x hP (by rw [m.1, hr8]; rfl) (by rw [e23]; exact ha)).mono fun v h1 _ e => ?_⟩
    obtain ⟨rfl, rfl⟩ := e
    have hF : pos w r = FA w len := hF
    refine S92_89_34 _ _ _ ⟨fun q => absurd rfl q, fun _ => ⟨by rw [e23, hF], hP, F, fun q => absurd q (by omega), r, by omega, m.1⟩⟩
  | succ k ih =>
    intro r h hr hF hN ha hP F e23 m ok
    have rF : rdF w len (k + 1) (pos w r) = if flt w (pos w r) ≠ -1 then flt w (pos w r) else if eR w (pos w r) = len then -1 else if w (eR w (pos w r)) ≠ 59 then eR w (pos w r) else rdF w len k (pos w (r + 1)) := rfl
    have rN : rdN w len (k + 1) (pos w r) = if flt w (pos w r) ≠ -1 then 0 else if eR w (pos w r) = len then 1 else if w (eR w (pos w r)) ≠ 59 then 1 else rdN w len k (pos w (r + 1)) + 1 := rfl
    rw [rF] at hF
    rw [rN] at hN
    refine S92_89_25 _ _ ⟨fun q => absurd q (by decide), fun _ => (K91 ht x hP hw (by omega) ha e23 m).mono fun v h1 _ e => ?_⟩
    obtain ⟨F1, e⟩ := e
    have hP1 : P h1 = P b := (F1.toP (fun a j c => by unfold fRd at c; unfold scr; omega)).trans hP
    have eL : h1 104 t = len := (congrFun (congrFun hP1 104) t).trans hl.symm
    rcases e with ⟨e, rfl, e1, e24⟩ | ⟨e, rfl, e1, m1⟩
    · rw [if_pos e] at hF
      refine S92_89_34 _ _ _ ⟨fun q => absurd rfl q, fun _ => ⟨by rw [e1, hF], hP1, F.tr F1, fun q => absurd (hF.trans q) e, r, by omega, e24.trans m.1⟩⟩
    · rw [if_neg (fun c => c e)] at hF hN
      have ok1 := flt_ok ha e
      have xt := x t ht.1 ht.2
      have hle : eR w (pos w r) ≤ len := by
        rcases ok1 with q | q
        · have z0 := q.2.2.2.2.2.2.2.1
          have zd : zR w (pos w r) = w (pos w r + 5) - 48 := if_pos q.1
          have := fb_rng (f := fun p => b 103 (50 * t + p)) (len := b 104 t) (p := pos w r + 5) (by show Wt b t _ ≠ -1; rw [← hw]; omega)
          omega
        · have kd : kR w (pos w r) = w (pos w r + 1) - 48 := rfl
          have := fb_rng (f := fun p => b 103 (50 * t + p)) (len := b 104 t) (p := pos w r + 1) (by show Wt b t _ ≠ -1; rw [← hw]; omega)
          omega
      have hge : 0 ≤ eR w (pos w r) := by omega
      have ok2 : ∀ i : Nat, i < r + 1 → flt w (pos w i) = -1 ∧ 0 ≤ pos w i := by
        intro i hi
        by_cases c : i = r
        · rw [c]; exact ⟨e, ha⟩
        · exact ok i (by omega)
      refine S92_89_34 _ _ _ ⟨fun _ => ⟨ht, ?_⟩, fun q => absurd q (by decide)⟩
      rw [eL, e1]
      refine ⟨fun q => ⟨by unfold R32; omega, ?_⟩, fun q => ⟨by unfold R32; omega, by omega, ?_⟩⟩
      · have q : eR w (pos w r) = len := by omega
        rw [if_pos q] at hF hN
        refine S92_89_25 _ _ ⟨fun _ => ⟨by rw [← hF], (P_up rfl).trans hP1, (F.tr F1).up (.inr ⟨rfl, by decide, by decide⟩), fun _ => ⟨?_, by omega, by rw [← hN]; exact ok2⟩, r + 1, by omega, (upd2_o (by decide)).trans m1.1⟩, fun q => absurd rfl q⟩
        rw [← hN]
        exact m1.fr (C := fun a j => a = 89 ∧ j = 23) (Fr.rf.up ⟨rfl, rfl⟩) (by omega) (fun a j a1 a2 => by omega)
      · rw [if_neg (by omega)] at hF hN
        have eb : h1 103 (50 * t + eR w (pos w r)) = w (eR w (pos w r)) := by
          have e3 : h1 103 (50 * t + eR w (pos w r)) = b 103 (50 * t + eR w (pos w r)) := congrFun (congrFun hP1 103) _
          have e4 : Wt b t (eR w (pos w r)) = b 103 (50 * t + eR w (pos w r)) := fb_in ⟨hge, by omega⟩
          rw [e3, ← e4, hw]
        rw [eb]
        refine ⟨fun c59 => ⟨by unfold R32; omega, ?_⟩, fun c59 => ?_⟩
        · rw [if_neg (fun c => c c59)] at hF hN
          exact ih (r + 1) _ (by omega) hF (by omega) (show 0 ≤ eR w (pos w r) + 1 by omega) ((P_up rfl).trans hP1) ((F.tr F1).up (.inr ⟨rfl, by decide, by decide⟩)) upd2_s (m1.fr (C := fun a j => a = 89 ∧ j = 23) (Fr.rf.up ⟨rfl, rfl⟩) (by omega) (fun a j a1 a2 => by omega)) ok2
        · rw [if_pos c59] at hF hN
          exact ⟨by rw [← hF], hP1, F.tr F1, fun q => absurd q (by omega), r + 1, by omega, m1.1⟩
/-- a text is read: its fault, its rules -/
theorem K92n {t : Int} {w : Int → Int} {len : Int} {h0 : HP} (ht : 0 ≤ t ∧ t < 2) (x : Xok b) (hw : w = Wt b t) (hl : len = b 104 t) (hP : P h0 = P b) : Wp X 3 92 0 [vr 89, vi t, vu] [] h0 (fun v h' => v = some (vi (FA w len)) ∧ P h' = P b ∧ Fr fRd h0 h' ∧ (FA w len = -1 → MS h' w (NRu w len) ∧ NRu w len ≤ 8 ∧ ∀ i : Nat, i < NRu w len → flt w (pos w i) = -1 ∧ 0 ≤ pos w i) ∧ ∃ r : Nat, r ≤ 8 ∧ h' 89 24 = r) := by
  have xt := x t ht.1 ht.2
  have eL : h0 104 t = len := (congrFun (congrFun hP 104) t).trans hl.symm
  refine S92_89_0 _ ⟨ht, ?_⟩
  rw [eL]
  have F : Fr fRd h0 (upd2 (upd2 h0 89 23 0) 89 24 0) := (Fr.rf.up (.inr ⟨rfl, by decide, by decide⟩)).up (.inr ⟨rfl, by decide, by decide⟩)
  have hP2 : P (upd2 (upd2 h0 89 23 0) 89 24 0) = P b := (P_up rfl).trans ((P_up rfl).trans hP)
  refine ⟨fun q => ?_, fun q => ?_⟩
  · have q : len = 0 := by omega
    have f : FA w len = -1 := if_pos q
    have n : NRu w len = 0 := if_pos q
    exact S92_89_25 _ _ ⟨fun _ => ⟨by rw [f], hP2, F, fun _ => by rw [n]; exact ⟨⟨upd2_s, fun i hi => absurd hi (Nat.not_lt_zero i)⟩, Nat.zero_le _, fun i hi => absurd hi (Nat.not_lt_zero i)⟩, 0, by decide, upd2_s⟩, fun q => absurd rfl q⟩
  · have f : FA w len = rdF w len 8 0 := if_neg (by omega)
    have n : NRu w len = rdN w len 8 0 := if_neg (by omega)
    exact L92 ht x hw hl 8 0 _ rfl f.symm (by rw [n, Nat.zero_add]; rfl) (Int.le_refl 0) hP2 F (by rw [upd2_o (by decide), upd2_s]; rfl) ⟨upd2_s, fun i hi => absurd hi (Nat.not_lt_zero i)⟩ (fun i hi => absurd hi (Nat.not_lt_zero i))
theorem K92 {t : Int} {w : Int → Int} {len : Int} {h0 : HP} (ht : 0 ≤ t ∧ t < 2) (x : Xok b) (hw : w = Wt b t) (hl : len = b 104 t) (hP : P h0 = P b) : Wp X 3 92 0 [vr 89, vi t, vu] [] h0 (fun v h' => v = some (vi (FA w len)) ∧ P h' = P b ∧ Fr fRd h0 h' ∧ (FA w len = -1 → MS h' w (NRu w len) ∧ NRu w len ≤ 8 ∧ ∀ i : Nat, i < NRu w len → flt w (pos w i) = -1 ∧ 0 ≤ pos w i)) :=
  (K92n ht x hw hl hP).mono fun _ _ _ e => ⟨e.1, e.2.1, e.2.2.1, e.2.2.2.1⟩
end
/-- how many of the last k, up to place p -/
def zcu (U : Int → Bool) (l : List Int) (p : Nat) : Nat → Int
  | 0 => 0
  | k + 1 => zcu U l p k + (if k ≤ p ∧ U (l.getD (p - k) 0) = true then 1 else 0)
theorem zcu_ext {U : Int → Bool} {l : List Int} {p n : Nat} (hp : p < n) : ∀ {m : Nat}, n ≤ m → zcu U l p m = zcu U l p n
  | 0, e => absurd hp (by omega)
  | m + 1, e => by
    by_cases q : n = m + 1
    · rw [q]
    · show zcu U l p m + _ = _
      rw [if_neg (fun c => by omega), zcu_ext hp (m := m) (by omega), Int.add_zero]
theorem zcu_r {U : Int → Bool} {l : List Int} {p : Nat} : ∀ k : Nat, 0 ≤ zcu U l p k ∧ zcu U l p k ≤ k
  | 0 => by show (0 : Int) ≤ 0 ∧ (0 : Int) ≤ ((0 : Nat) : Int); omega
  | k + 1 => by
    have := zcu_r (U := U) (l := l) (p := p) k
    unfold zcu
    split <;> omega
def upB (s : Int → Int) (z g : Int) : Bool := decide (4 ≤ s g ∧ s g ≤ 7 ∧ z ≤ s g - 4)
def dnB (s : Int → Int) (z g : Int) : Bool := decide (s g ≤ 3 ∧ z ≤ 3 - s g)
/-- a group at a place warns by the rule at a -/
def RTa (w : Int → Int) (m s : Int → Int) (l : List Int) (p : Nat) (a : Int) : Bool := if w a = 122 then decide (kR w a ≤ zcu (upB s (zR w a)) l p (nR w a).toNat ∨ kR w a ≤ zcu (dnB s (zR w a)) l p (nR w a).toNat) else if w a = 114 then decide (kR w a ≤ swy (msq m l) p) else decide (kR w a ≤ owy (msq m l) p)
def RTi (w : Int → Int) (m s : Int → Int) (l : List Int) (p : Nat) (i : Int) : Bool := RTa w m s l p (pos w i.toNat)
/-- the reference looks at a row of groups -/
def LKd (b h : HP) (l : List Int) : Prop := Ar (h 109) l ∧ l.length ≤ 20 ∧ ∀ x, x ∈ l → 0 ≤ x ∧ x < b 89 5
theorem getD_mem {l : List Int} {i : Nat} (h : i < l.length) : l.getD i 0 ∈ l := by
  rw [List.getD_eq_getElem?_getD, List.getElem?_eq_getElem h]
  exact List.getElem_mem h
def qsg (q : LN) (g : Int) : Int := qst q (mnV q.1 g)
section
variable {X : Nat × (Int → Int)} {b : HP}
theorem L94 {h : HP} {w : Int → Int} {n i : Nat} {l : List Int} {p : Nat} (T : Tok b) (so : Sok b) (hP : P h = P b) (v : VV b h) (B : BB (mq5 b) (ob (mq5 b)) h) (hM : 0 < qM (mq5 b) (ob (mq5 b))) (lk : LKd b h l) (m : MS h w n) (hn : n ≤ 8) (hi : i < n) (h0 : 0 ≤ pos w i) (ok : flt w (pos w i) = -1) (hz : w (pos w i) = 122) (hp : p < l.length) : ∀ (k d : Nat) (z6 z7 : aV), d + k = (nR w (pos w i)).toNat → d ≤ p + 1 → Wp X 2 94 8 [vr 89, vi i, vi p, vi (zcu (upB (qsg (mq5 b)) (zR w (pos w i))) l p d), vi (zcu (dnB (qsg (mq5 b)) (zR w (pos w i))) l p d), vi ((p : Int) - d), z6, z7] [] h (fun v h' => v = some (vi (if RTa w (mnV (VL b)) (qsg (mq5 b)) l p (pos w i) then 1 else 0)) ∧ h' = h) := by
  have mi := m.2 i hi
  have okk := flt_ok h0 ok
  have hl20 := lk.2.1
  generalize hU : zcu (upB (qsg (mq5 b)) (zR w (pos w i))) l p = U
  generalize hD : zcu (dnB (qsg (mq5 b)) (zR w (pos w i))) l p = D
  have rt : RTa w (mnV (VL b)) (qsg (mq5 b)) l p (pos w i) = decide (kR w (pos w i) ≤ U (nR w (pos w i)).toNat ∨ kR w (pos w i) ≤ D (nR w (pos w i)).toNat) := by
    unfold RTa; rw [if_pos hz, hU, hD]
  have fin : ∀ d : Nat, U d = U (nR w (pos w i)).toNat → D d = D (nR w (pos w i)).toNat → (((kR w (pos w i)) ≤ U d → (fun (v : Option aV) (h' : HP) => v = some (vi (if RTa w (mnV (VL b)) (qsg (mq5 b)) l p (pos w i) then 1 else 0)) ∧ h' = h) (some (vi 1)) h) ∧ (U d < (kR w (pos w i)) → ((D d < (kR w (pos w i)) → (fun (v : Option aV) (h' : HP) => v = some (vi (if RTa w (mnV (VL b)) (qsg (mq5 b)) l p (pos w i) then 1 else 0)) ∧ h' = h) (some (vi 0)) h) ∧ ((kR w (pos w i)) ≤ D d → (fun (v : Option aV) (h' : HP) => v = some (vi (if RTa w (mnV (VL b)) (qsg (mq5 b)) l p (pos w i) then 1 else 0)) ∧ h' = h) (some (vi 1)) h)))) := by
    intro d eu ed
    rw [rt, ← eu, ← ed]
    refine ⟨fun q => ⟨by rw [if_pos (decide_eq_true (.inl q))], rfl⟩, fun q => ⟨fun q2 => ⟨by rw [if_neg (by rw [decide_eq_true_iff]; omega)], rfl⟩, fun q2 => ⟨by rw [if_pos (decide_eq_true (.inr q2))], rfl⟩⟩⟩
  intro k
  induction k with
  | zero =>
    intro d z6 z7 hd hdp
    have hd : d = (nR w (pos w i)).toNat := by omega
    have f := fin d (by rw [hd]) (by rw [hd])
    refine S94_89_8 _ _ _ _ _ z6 z7 ?_
    rw [mi.2.1, mi.2.2.1]
    exact ⟨fun _ => ⟨⟨by omega, by omega⟩, f⟩, fun _ => ⟨⟨by omega, by omega⟩, by unfold R32; omega, fun _ => f, fun q => absurd q (by omega)⟩⟩
  | succ k ih =>
    intro d z6 z7 hd hdp
    by_cases c : d = p + 1
    · have f := fin d (by rw [← hU]; exact (zcu_ext (by omega) (by omega)).symm) (by rw [← hD]; exact (zcu_ext (by omega) (by omega)).symm)
      refine S94_89_8 _ _ _ _ _ z6 z7 ?_
      rw [mi.2.1, mi.2.2.1]
      exact ⟨fun _ => ⟨⟨by omega, by omega⟩, f⟩, fun q => absurd q (by omega)⟩
    · have hx : (p : Int) - d = ((p - d : Nat) : Int) := by omega
      have lg := lk.1 (p - d) (by omega)
      have lm := lk.2.2 _ (getD_mem (l := l) (i := p - d) (by omega))
      have vg := v.2.1 _ lm.1 lm.2
      have hL := mq5_ok T so
      have t := T.1
      have e2 : h 97 2 = b 97 2 := congrFun (congrFun hP 97) 2
      have eU : U (d + 1) = U d + (if upB (qsg (mq5 b)) (zR w (pos w i)) (l.getD (p - d) 0) = true then 1 else 0) := by
        rw [← hU]
        show _ + (if d ≤ p ∧ _ then _ else _) = _
        by_cases q : upB (qsg (mq5 b)) (zR w (pos w i)) (l.getD (p - d) 0) = true
        · rw [if_pos ⟨by omega, q⟩, if_pos q]
        · rw [if_neg (fun c => q c.2), if_neg q]
      have eD : D (d + 1) = D d + (if dnB (qsg (mq5 b)) (zR w (pos w i)) (l.getD (p - d) 0) = true then 1 else 0) := by
        rw [← hD]
        show _ + (if d ≤ p ∧ _ then _ else _) = _
        by_cases q : dnB (qsg (mq5 b)) (zR w (pos w i)) (l.getD (p - d) 0) = true
        · rw [if_pos ⟨by omega, q⟩, if_pos q]
        · rw [if_neg (fun c => q c.2), if_neg q]
      have rU := zcu_r (U := upB (qsg (mq5 b)) (zR w (pos w i))) (l := l) (p := p) d
      have rD := zcu_r (U := dnB (qsg (mq5 b)) (zR w (pos w i))) (l := l) (p := p) d
      rw [hU] at rU
      rw [hD] at rD
      have go := fun z6 z7 => ih (d + 1) z6 z7 (by omega) (by omega)
      rw [eU, eD, show (p : Int) - ((d + 1 : Nat) : Int) = (p : Int) - d + (-1) by omega] at go
      generalize hg : l.getD (p - d) 0 = g at *
      refine S94_89_8 _ _ _ _ _ z6 z7 ?_
      rw [mi.2.1, mi.2.2.1]
      refine ⟨fun q => absurd q (by omega), fun _ => ⟨⟨by omega, by omega⟩, by unfold R32; omega, fun q => absurd q (by omega), fun _ => ⟨⟨by omega, by omega⟩, ?_⟩⟩⟩
      rw [hx, lg]
      refine (K77 hL B (e2.trans rfl) ⟨lm.1, by omega⟩ vg.1).mono fun vv h1 _ e => ?_
      obtain ⟨rfl, rfl⟩ := e
      have bm : 0 ≤ qM (mq5 b) (ob (mq5 b)) ∧ qM (mq5 b) (ob (mq5 b)) ≤ 20 := bM_r
      have bs : 0 ≤ qS (mq5 b) (ob (mq5 b)) ∧ qS (mq5 b) (ob (mq5 b)) ≤ 1198800 := bS_r hL.1
      have m1 := mulB (mnV_r hL.1 g).1 (mnV_r hL.1 g).2 bm.1 bm.2
      have zr := zn_r (M := qM (mq5 b) (ob (mq5 b))) (S := qS (mq5 b) (ob (mq5 b))) (p := qP (mq5 b) (ob (mq5 b))) (rc := (mq5 b).2.2.2.2) (x := mnV (mq5 b).1 g)
      have es : qsg (mq5 b) g = stn (qM (mq5 b) (ob (mq5 b))) (qS (mq5 b) (ob (mq5 b))) (qP (mq5 b) (ob (mq5 b))) (mq5 b).2.2.2.2 (mnV (mq5 b).1 g) := rfl
      unfold stn at es
      rw [if_neg (by omega)] at es
      have vg1 : h1 99 g = mnV (mq5 b).1 g := vg.1
      refine S94_89_41 _ _ _ _ _ _ _ _ ?_
      rw [mi.2.2.2, vg1, B.1, B.2.1]
      simp only [lcp_l, lcp_ge, lcp_g, lcp_le]
      generalize zn (qM (mq5 b) (ob (mq5 b))) (qS (mq5 b) (ob (mq5 b))) (qP (mq5 b) (ob (mq5 b))) (mq5 b).2.2.2.2 (mnV (mq5 b).1 g) = zz at *
      generalize mnV (mq5 b).1 g * qM (mq5 b) (ob (mq5 b)) = mm at *
      have nu : ¬ (4 ≤ qsg (mq5 b) g ∧ qsg (mq5 b) g ≤ 7 ∧ zR w (pos w i) ≤ qsg (mq5 b) g - 4) → upB (qsg (mq5 b)) (zR w (pos w i)) g = false := fun q => decide_eq_false q
      have nd : ¬ (qsg (mq5 b) g ≤ 3 ∧ zR w (pos w i) ≤ 3 - qsg (mq5 b) g) → dnB (qsg (mq5 b)) (zR w (pos w i)) g = false := fun q => decide_eq_false q
      have yu : (4 ≤ qsg (mq5 b) g ∧ qsg (mq5 b) g ≤ 7 ∧ zR w (pos w i) ≤ qsg (mq5 b) g - 4) → upB (qsg (mq5 b)) (zR w (pos w i)) g = true := fun q => decide_eq_true q
      have yd : (qsg (mq5 b) g ≤ 3 ∧ zR w (pos w i) ≤ 3 - qsg (mq5 b) g) → dnB (qsg (mq5 b)) (zR w (pos w i)) g = true := fun q => decide_eq_true q
      refine ⟨⟨by omega, by omega⟩, fun q => ⟨by unfold R32; omega, by unfold R32; omega, by unfold R32; omega, ?_⟩, fun q => ⟨⟨lm.1, by omega⟩, by unfold R64; omega, by unfold R64; omega, by unfold R64; omega, fun q2 => ⟨fun q3 => ⟨by unfold R32; omega, by unfold R32; omega, by unfold R32; omega, ?_⟩, fun q3 => ⟨by unfold R32; omega, by unfold R32; omega, by unfold R32; omega, ?_⟩⟩, fun q2 => ⟨by unfold R32; omega, by unfold R32; omega, by unfold R32; omega, ?_⟩⟩⟩
      · have go := go (vi g) (vi 0)
        rw [nu (by repeat' split at es
                   all_goals omega), nd (by repeat' split at es
                                            all_goals omega)] at go
        rw [hx] at go
        exact go
      · have go := go (vi g) (vi 1)
        rw [if_pos (by omega)] at es
        rw [nu (by omega), nd (by omega)] at go
        rw [hx] at go
        exact go
      · have go := go (vi g) (vi 1)
        rw [if_neg (by omega), if_neg (by omega)] at es
        rw [nu (by omega), yd (by omega)] at go
        rw [hx] at go
        exact go
      · have go := go (vi g) (vi 1)
        rw [if_neg (by omega), if_pos (by omega)] at es
        rw [yu (by omega), nd (by omega)] at go
        rw [hx] at go
        exact go
end
