def f179 (a : Nat) (j : Int) : Prop := (a = 69 ∧ 2 ≤ j ∧ j ≤ 6) ∨ a = 71 ∨ a = 72 ∨ a = 73
section
variable {X : Nat × (Int → Int)}
/-- the weights of the first of the classes that are counted alike -/
theorem K180_49 {h0 : HP} {w : Int → Int} {n : Nat} {d : Int} {sg : Nat → Int} (zr : ZR 49 h0 w n) (hd : -7 ≤ d ∧ d ≤ 7) (hs : ∀ c : Nat, c < 8 → h0 70 c = sg c) (hs0 : ∀ c, c < 8 → 0 ≤ sg c) (h64 : sn sg 8 = 64) : Wp X 2 180 0 [vr 69, vr 49, vi d, vu, vu, vu] [] h0 (fun v h => v = none ∧ Fr f180 h0 h ∧ ∀ c : Nat, c < 8 → h 71 c = wtC w n sg d c) := by
  have LA : ∀ (j c : Nat) (h : HP) (z4 z5 : aV), c + j = 8 → Fr f180 h0 h → (∀ b : Nat, b < 8 → h 71 b = sn (fun i => if fst' w n (clp d i) = b then sg i else 0) c) → Wp X 2 180 23 [vr 69, vr 49, vi d, vi c, z4, z5] [] h (fun v h => v = none ∧ Fr f180 h0 h ∧ ∀ c : Nat, c < 8 → h 71 c = wtC w n sg d c) := by
    intro j
    induction j with
    | zero =>
      intro c h z4 z5 hc F e
      have hc : c = 8 := by omega
      subst hc
      exact S180_69_49_23 _ _ _ _ ⟨fun _ => ⟨rfl, F, e⟩, fun q => absurd q (by omega)⟩
    | succ j ih =>
      intro c h z4 z5 hc F e
      have zr1 : ZR 49 h w n := zr.fr F (by unfold f180; omega) (by unfold f180; omega) (fun a j a1 a2 => by unfold f180; omega)
      have e70 : h 70 c = sg c := (F 70 c (by unfold f180; omega)).trans (hs c (by omega))
      have sx := hs0 c (by omega)
      have cl8 := clp_lt (d := d) (c := c)
      have zl : h 52 0 = lg (pkH (gsl w n 0) 8) := zr1.2.2.2 0 (by omega)
      have nA : ∀ s : Nat, s < 8 → (i64 (h 50 (s : Int)) &&& i64 (h 52 0)).toInt = lg (lA w n s) := fun s hs => by
        rw [show h 50 (s : Int) = lg (pkH (gab w n s) 8) from (zr1.2.2.1 s (by omega)).1, zl, lg_and, pkH_and gab_lt gsl_lt]; rfl
      have nB : ∀ s : Nat, s < 8 → (i64 (h 51 (s : Int)) &&& i64 (h 52 0)).toInt = lg (lB w n s) := fun s hs => by
        rw [show h 51 (s : Int) = lg (pkH (gbl w n s) 8) from (zr1.2.2.1 s (by omega)).2, zl, lg_and, pkH_and gbl_lt gsl_lt]; rfl
      have ltA : ∀ s, lA w n s < 2 ^ 64 := fun s => pkH_lt (g := fun i => gab w n s i &&& gsl w n 0 i) (fun i => Nat.lt_of_le_of_lt Nat.and_le_right (gsl_lt i)) 8
      have ltB : ∀ s, lB w n s < 2 ^ 64 := fun s => pkH_lt (g := fun i => gbl w n s i &&& gsl w n 0 i) (fun i => Nat.lt_of_le_of_lt Nat.and_le_right (gsl_lt i)) 8
      -- the weight is added
      have add : ∀ (f : Nat), f = fst' w n (clp d c) → f < 8 → ∀ z4 : aV, (0 ≤ (f : Int) ∧ (f : Int) < 8) ∧ ((0 ≤ (c : Int) ∧ (c : Int) < 8) ∧ ((R32 ((h 71 f) + (h 70 c))) ∧ Wp X 2 180 23 [vr 69, vr 49, vi d, vi ((c : Int) + 1), z4, vi f] [] (upd2 h 71 f ((h 71 f) + (h 70 c))) (fun v h => v = none ∧ Fr f180 h0 h ∧ ∀ c : Nat, c < 8 → h 71 c = wtC w n sg d c))) := by
        intro f hf f8 z4
        have ey := e f f8
        have r1 : 0 ≤ sn (fun i => if fst' w n (clp d i) = f then sg i else 0) c := sn_nn fun i hi => by have := hs0 i (by omega); split <;> omega
        have r2 : sn (fun i => if fst' w n (clp d i) = f then sg i else 0) c ≤ sn sg c := sn_mono fun i hi => by have := hs0 i (by omega); split <;> omega
        have r3 : sn sg (c + 1) ≤ sn sg 8 := sn_up (by omega) hs0
        have r4 : sn sg (c + 1) = sn sg c + sg c := rfl
        refine ⟨⟨by omega, by omega⟩, ⟨by omega, by omega⟩, by rw [ey, e70]; unfold R32; omega, ih (c + 1) _ _ _ (by omega) (F.up rfl) fun b hb => ?_⟩
        rw [upd2_at, e70]
        show _ = sn (fun i => if fst' w n (clp d i) = b then sg i else 0) c + (if fst' w n (clp d c) = b then sg c else 0)
        by_cases q : f = b
        · rw [if_pos (by omega), ey, if_pos (by omega), q]
        · rw [if_neg (by omega), if_neg (by omega), Int.add_zero]
          exact e b hb
      -- the first that is alike
      have LF : ∀ (k f : Nat), f + k = clp d c → fst' w n (clp d c) = fsF (fun g => alk w n g (clp d c)) k f → Wp X 2 180 46 [vr 69, vr 49, vi d, vi c, vi (clp d c : Nat), vi f] [] h (fun v h => v = none ∧ Fr f180 h0 h ∧ ∀ c : Nat, c < 8 → h 71 c = wtC w n sg d c) := by
        intro k
        induction k with
        | zero =>
          intro f hf hfs
          exact S180_69_49_46 _ _ _ _ ⟨fun _ => add f hfs.symm (by omega) _, fun q => absurd q (by omega)⟩
        | succ k ihk =>
          intro f hf hfs
          have hfs : fst' w n (clp d c) = if alk w n f (clp d c) then f else fsF (fun g => alk w n g (clp d c)) k (f + 1) := hfs
          refine S180_69_49_46 _ _ _ _ ⟨fun q => absurd q (by omega), fun _ => ⟨fun q => absurd q (by omega), fun _ => ⟨fun q => absurd q (by omega), fun _ => ⟨fun q => absurd q (by omega), fun _ => ⟨fun q => absurd q (by omega), fun _ => ?_⟩⟩⟩⟩⟩
          rw [nA f (by omega), nA (clp d c) cl8, nB f (by omega), nB (clp d c) cl8]
          have no : ¬ (lA w n f = lA w n (clp d c) ∧ lB w n f = lB w n (clp d c)) → Wp X 2 180 46 [vr 69, vr 49, vi d, vi c, vi (clp d c : Nat), vi ((f : Int) + 1)] [] h (fun v h => v = none ∧ Fr f180 h0 h ∧ ∀ c : Nat, c < 8 → h 71 c = wtC w n sg d c) := by
            intro q
            have qa : alk w n f (clp d c) = false := decide_eq_false q
            rw [if_neg (by rw [qa]; decide)] at hfs
            exact ihk (f + 1) (by omega) hfs
          refine ⟨fun q => no (fun c => Eq.mp lcp_n q (congrArg lg c.1)), fun q => ⟨fun q2 => no (fun c => Eq.mp lcp_n q2 (congrArg lg c.2)), fun q2 => ?_⟩⟩
          have qa : alk w n f (clp d c) = true := decide_eq_true ⟨lg_inj (ltA _) (ltA _) (Eq.mp lcp_e q), lg_inj (ltB _) (ltB _) (Eq.mp lcp_e q2)⟩
          rw [if_pos qa] at hfs
          exact add f hfs.symm (by omega) _
      have g := LF (clp d c) 0 (Nat.zero_add _) rfl
      have go : ∀ s : Int, s = (clp d c : Nat) → Wp X 2 180 46 [vr 69, vr 49, vi d, vi c, vi s, vi 0] [] h (fun v h => v = none ∧ Fr f180 h0 h ∧ ∀ c : Nat, c < 8 → h 71 c = wtC w n sg d c) := by
        intro s hs
        rw [hs]
        exact g
      refine S180_69_49_23 _ _ _ _ ⟨fun q => absurd q (by omega), fun _ => ⟨by unfold R32; omega, fun q => ⟨fun q2 => go _ ?_, fun q2 => go _ ?_⟩, fun q => go _ ?_⟩⟩
      · unfold clp; rw [if_neg (by omega), if_neg (by omega)]; omega
      · unfold clp
        by_cases q3 : (c : Int) + d < 0
        · rw [if_pos q3]; rfl
        · rw [if_neg q3, if_neg (by omega)]; omega
      · unfold clp
        rw [if_neg (by omega)]
        by_cases q3 : 7 < (c : Int) + d
        · rw [if_pos q3]; rfl
        · rw [if_neg q3]; omega
  have LB : ∀ (j c : Nat) (h : HP), c + j = 8 → Fr f180 h0 h → (∀ b : Nat, b < c → h 71 b = 0) → Wp X 2 180 2 [vr 69, vr 49, vi d, vi c, vu, vu] [] h (fun v h => v = none ∧ Fr f180 h0 h ∧ ∀ c : Nat, c < 8 → h 71 c = wtC w n sg d c) := by
    intro j
    induction j with
    | zero =>
      intro c h hc F e
      exact S180_69_49_2 _ _ ⟨fun _ => LA 8 0 h _ _ rfl F (fun b hb => e b (by omega)), fun q => absurd q (by omega)⟩
    | succ j ih =>
      intro c h hc F e
      refine S180_69_49_2 _ _ ⟨fun q => absurd q (by omega), fun _ => ⟨⟨by omega, by omega⟩, ih (c + 1) _ (by omega) (F.up rfl) fun b hb => ?_⟩⟩
      rw [upd2_at]
      by_cases q : b = c
      · rw [if_pos (by omega)]
      · rw [if_neg (by omega)]; exact e b (by omega)
  exact S180_69_49_0 _ (LB 8 0 h0 rfl Fr.rf (fun b hb => absurd hb (Nat.not_lt_zero b)))
/-- how soon the class's rules warn -/
theorem K179_49 {h0 : HP} {w : Int → Int} {n m : Nat} {d : Int} {sg : Nat → Int} (z : Zok w n) (zr : ZR 49 h0 w n) (nt : NT h0) (hm : m ≤ 9) (hd : -7 ≤ d ∧ d ≤ 7) (hs : ∀ c : Nat, c < 8 → h0 70 c = sg c) (hs0 : ∀ c, c < 8 → 0 ≤ sg c) (h64 : sn sg 8 = 64) : Wp X 3 179 0 [vr 69, vr 49, vi m, vi d, vu, vu] [] h0 (fun v h => v = none ∧ Fr f179 h0 h ∧ NT h ∧ (0 < m → h 69 4 = WW sg (clp d) (Rw w n) (m - 1)) ∧ h 69 5 = hor (WW sg (clp d) (Rw w n)) m ∧ h 69 6 = 64 ^ m) := by
  have rd := Rd_C (d := d) (sg := sg) z
  have wl := wdt_le (w := w) n (fun i hi _ => (z.2 i hi).2.2.2.1)
  have hN : ∀ t, hdn w n t ≤ 4 := fun t => by unfold hdn; omega
  refine S179_69_49_0 _ _ ((K180_49 zr hd hs hs0 h64).mono fun v h1 _ f => ?_)
  obtain ⟨rfl, F1, e71⟩ := f
  have zr1 : ZR 49 h1 w n := zr.fr F1 (by unfold f180; omega) (by unfold f180; omega) (fun a j a1 a2 => by unfold f180; omega)
  have G1 : Fr f179 h0 h1 := F1.mo fun a j c => by unfold f180 at c; unfold f179; omega
  -- the steps
  have LT : ∀ (k t : Nat) (h : HP) (z3 : aV), t + k = m → Fr f179 h0 h → (∀ c : Nat, c < 8 → h 71 c = wtC w n sg d c) → ((h 69 2 = 72 ∧ h 69 3 = 73 ∧ ∀ x : Nat, x < 8 ^ hdn w n t → h 72 x = AV (wtC w n sg d) (hitC w n) (nxC w n) (fun t => 8 ^ hdn w n t) 0 t x) ∨ (h 69 2 = 73 ∧ h 69 3 = 72 ∧ ∀ x : Nat, x < 8 ^ hdn w n t → h 73 x = AV (wtC w n sg d) (hitC w n) (nxC w n) (fun t => 8 ^ hdn w n t) 0 t x)) → (0 < t → h 69 4 = WW sg (clp d) (Rw w n) (t - 1)) → h 69 5 = hor (WW sg (clp d) (Rw w n)) t → h 69 6 = 64 ^ t → Wp X 3 179 38 [vr 69, vr 49, vi m, z3, vi ((wdt w n - 1).toNat : Nat), vi t] [] h (fun v h => v = none ∧ Fr f179 h0 h ∧ NT h ∧ (0 < m → h 69 4 = WW sg (clp d) (Rw w n) (m - 1)) ∧ h 69 5 = hor (WW sg (clp d) (Rw w n)) m ∧ h 69 6 = 64 ^ m) := by
    intro k
    induction k with
    | zero =>
      intro t h z3 ht F ew st e4 e5 e6
      have ht : t = m := by omega
      subst ht
      exact S179_69_49_38 _ _ _ _ ⟨fun _ => ⟨rfl, F, st.elim (fun s => .inl ⟨s.1, s.2.1⟩) (fun s => .inr ⟨s.1, s.2.1⟩), e4, e5, e6⟩, fun q => absurd q (by omega)⟩
    | succ k ih =>
      intro t h z3 ht F ew st e4 e5 e6
      have zh : ZR 49 h w n := zr.fr F (by unfold f179; omega) (by unfold f179; omega) (fun a j a1 a2 => by unfold f179; omega)
      have B : B182 (wtC w n sg d) (AV (wtC w n sg d) (hitC w n) (nxC w n) (fun t => 8 ^ hdn w n t) 0 t) (fun x c => Rw w n (eC x (hdn w n t) c)) (fun x c => (8 * x + c) % 8 ^ hdn w n (t + 1)) (8 ^ hdn w n t) := by
        have pp : ∀ x, 0 ≤ AV (wtC w n sg d) (hitC w n) (nxC w n) (fun t => 8 ^ hdn w n t) 0 t x ∧ AV (wtC w n sg d) (hitC w n) (nxC w n) (fun t => 8 ^ hdn w n t) 0 t x ≤ 281474976710656 := fun x => by
          have r := AV_r rd hs0 h64 t x
          have p : ∀ t : Nat, t < 9 → (64 : Int) ^ t ≤ 281474976710656 := by decide
          exact ⟨r.1, Int.le_trans r.2 (p t (by omega))⟩
        have p9 := p64 (t + 1) (by omega)
        have wn : ∀ c, 0 ≤ wtC w n sg d c := fun c => sn_nn fun i hi => by have := hs0 i hi; split <;> omega
        refine ⟨pp, fun c hc => wt_r rd hs0 h64 hc, fun x c hx hc => ⟨fun y => ?_, ?_⟩⟩
        · have nn : ∀ x c, 0 ≤ zV (AV (wtC w n sg d) (hitC w n) (nxC w n) (fun t => 8 ^ hdn w n t) 0 t) (wtC w n sg d) (fun x c => Rw w n (eC x (hdn w n t) c)) (fun x c => (8 * x + c) % 8 ^ hdn w n (t + 1)) y x c := fun x c => by
            unfold zV
            split
            · exact Int.le_refl 0
            · split
              · exact Int.mul_nonneg (pp x).1 (wn c)
              · exact Int.le_refl 0
          have b := pG_b (n := 8 ^ hdn w n t) nn hx (show c ≤ 8 by omega)
          have r := (AV_r rd hs0 h64 (t + 1) y).2
          have ee : AV (wtC w n sg d) (hitC w n) (nxC w n) (fun t => 8 ^ hdn w n t) 0 (t + 1) y = sn (fun x => sn (zV (AV (wtC w n sg d) (hitC w n) (nxC w n) (fun t => 8 ^ hdn w n t) 0 t) (wtC w n sg d) (fun x c => Rw w n (eC x (hdn w n t) c)) (fun x c => (8 * x + c) % 8 ^ hdn w n (t + 1)) y x) 8) (8 ^ hdn w n t) := rfl
          rw [ee] at r
          exact ⟨b.1, Int.le_trans b.2 (Int.le_trans r p9.2)⟩
        · have nn : ∀ x c, 0 ≤ zJ (AV (wtC w n sg d) (hitC w n) (nxC w n) (fun t => 8 ^ hdn w n t) 0 t) (wtC w n sg d) (fun x c => Rw w n (eC x (hdn w n t) c)) x c := fun x c => by
            unfold zJ
            split
            · exact Int.mul_nonneg (pp x).1 (wn c)
            · exact Int.le_refl 0
          have b := pG_b (n := 8 ^ hdn w n t) nn hx (show c ≤ 8 by omega)
          have r := (WW_r (cl := clp d) (R := Rw w n) hs0 h64 t).2
          rw [← AJ_WW rd] at r
          have ee : AJ (wtC w n sg d) (hitC w n) (nxC w n) (fun t => 8 ^ hdn w n t) 0 t = sn (fun x => sn (zJ (AV (wtC w n sg d) (hitC w n) (nxC w n) (fun t => 8 ^ hdn w n t) 0 t) (wtC w n sg d) (fun x c => Rw w n (eC x (hdn w n t) c)) x) 8) (8 ^ hdn w n t) := rfl
          rw [ee] at r
          exact ⟨b.1, Int.le_trans b.2 (Int.le_trans r p9.2)⟩
      have hw := WW_r (cl := clp d) (R := Rw w n) hs0 h64
      have hb := hor_le (cl := clp d) (R := Rw w n) hs0 h64 t
      have hb1 := hor_le (cl := clp d) (R := Rw w n) hs0 h64 (t + 1)
      have wt := hw t
      have p0 := p64 t (by omega)
      have p1 := p64 (t + 1) (by omega)
      have ps : (64 : Int) ^ (t + 1) = 64 ^ t * 64 := Int.pow_succ _ _
      have hh : hor (WW sg (clp d) (Rw w n)) (t + 1) = hor (WW sg (clp d) (Rw w n)) t * 64 + WW sg (clp d) (Rw w n) t := rfl
      -- behind a step
      have nxt : ∀ h2 : HP, Fr f181 h h2 → ((h2 69 2 = 72 ∧ h2 69 3 = 73 ∧ ∀ x : Nat, x < 8 ^ hdn w n (t + 1) → h2 72 x = AV (wtC w n sg d) (hitC w n) (nxC w n) (fun t => 8 ^ hdn w n t) 0 (t + 1) x) ∨ (h2 69 2 = 73 ∧ h2 69 3 = 72 ∧ ∀ x : Nat, x < 8 ^ hdn w n (t + 1) → h2 73 x = AV (wtC w n sg d) (hitC w n) (nxC w n) (fun t => 8 ^ hdn w n t) 0 (t + 1) x)) → h2 69 4 = WW sg (clp d) (Rw w n) t → Wp X 3 179 65 [vr 69, vr 49, vi m, z3, vi ((wdt w n - 1).toNat : Nat), vi t] [] h2 (fun v h => v = none ∧ Fr f179 h0 h ∧ NT h ∧ (0 < m → h 69 4 = WW sg (clp d) (Rw w n) (m - 1)) ∧ h 69 5 = hor (WW sg (clp d) (Rw w n)) m ∧ h 69 6 = 64 ^ m) := by
        intro h2 F2 st2 f4
        have f5 : h2 69 5 = hor (WW sg (clp d) (Rw w n)) t := (F2 69 5 (by unfold f181; omega)).trans e5
        have f6 : h2 69 6 = 64 ^ t := (F2 69 6 (by unfold f181; omega)).trans e6
        have G2 : Fr f179 h0 h2 := F.tr (F2.mo fun a j c => by unfold f181 at c; unfold f179; omega)
        refine S179_69_49_65 _ _ _ _ ?_
        rw [f4, f5, f6]
        refine ⟨by unfold R64; omega, by unfold R64; omega, by unfold R64; omega, by unfold R32; omega, ih (t + 1) _ _ (by omega) ((G2.up (by unfold f179; omega)).up (by unfold f179; omega)) (fun c hc => ?_) ?_ (fun _ => ?_) ?_ ?_⟩
        · rw [upd2_ne (by decide), upd2_ne (by decide)]
          exact (F2 71 c (by unfold f181; omega)).trans (ew c hc)
        · rw [upd2_o (by decide), upd2_o (by decide), upd2_o (by decide), upd2_o (by decide), upd2_ne (a := 69) (b := 72) (by decide), upd2_ne (a := 69) (b := 73) (by decide), upd2_ne (a := 69) (b := 72) (by decide), upd2_ne (a := 69) (b := 73) (by decide)]
          exact st2
        · rw [upd2_o (by decide), upd2_o (by decide)]; exact f4
        · rw [upd2_o (by decide), upd2_s]; rfl
        · rw [upd2_s, ps]
      have go : ∀ a c : Int, a = (hdn w n t : Nat) → c = (hdn w n (t + 1) : Nat) → Wp X 2 181 0 [vr 69, vr 49, vi a, vi c, vu, vu, vu] [] h (fun v h' => Wp X 3 179 65 [vr 69, vr 49, vi m, z3, vi ((wdt w n - 1).toNat : Nat), vi t] (psh v []) h' (fun v h => v = none ∧ Fr f179 h0 h ∧ NT h ∧ (0 < m → h 69 4 = WW sg (clp d) (Rw w n) (m - 1)) ∧ h 69 5 = hor (WW sg (clp d) (Rw w n)) m ∧ h 69 6 = 64 ^ m)) := by
        intro a c ha hc
        rw [ha, hc]
        have ej : pG (zJ (AV (wtC w n sg d) (hitC w n) (nxC w n) (fun t => 8 ^ hdn w n t) 0 t) (wtC w n sg d) (fun x c => Rw w n (eC x (hdn w n t) c))) (8 ^ hdn w n t) 0 = WW sg (clp d) (Rw w n) t := by
          rw [pG_end, ← AJ_WW rd]; rfl
        have ev : ∀ y, pG (zV (AV (wtC w n sg d) (hitC w n) (nxC w n) (fun t => 8 ^ hdn w n t) 0 t) (wtC w n sg d) (fun x c => Rw w n (eC x (hdn w n t) c)) (fun x c => (8 * x + c) % 8 ^ hdn w n (t + 1)) y) (8 ^ hdn w n t) 0 = AV (wtC w n sg d) (hitC w n) (nxC w n) (fun t => 8 ^ hdn w n t) 0 (t + 1) y := fun y => by
          rw [pG_end]; rfl
        rcases st with s | s
        · refine (K181_49_72 z zh ew (hN t) (hN (t + 1)) s.1 s.2.1 s.2.2 B).mono fun v h2 _ f => ?_
          obtain ⟨rfl, F2, b2, b3, b4, b5⟩ := f
          exact nxt h2 F2 (.inr ⟨b2, b3, fun x hx => (b4 x hx).trans (ev x)⟩) (b5.trans ej)
        · refine (K181_49_73 z zh ew (hN t) (hN (t + 1)) s.1 s.2.1 s.2.2 B).mono fun v h2 _ f => ?_
          obtain ⟨rfl, F2, b2, b3, b4, b5⟩ := f
          exact nxt h2 F2 (.inl ⟨b2, b3, fun x hx => (b4 x hx).trans (ev x)⟩) (b5.trans ej)
      have hd1 : hdn w n t = min t (wdt w n - 1).toNat := rfl
      have hd2 : hdn w n (t + 1) = min (t + 1) (wdt w n - 1).toNat := rfl
      exact S179_69_49_38 _ _ _ _ ⟨fun q => absurd q (by omega), fun _ => ⟨fun q => ⟨by unfold R32; omega, fun q2 => go _ _ (by omega) (by omega), fun q2 => go _ _ (by omega) (by omega)⟩, fun q => ⟨by unfold R32; omega, fun q2 => go _ _ (by omega) (by omega), fun q2 => go _ _ (by omega) (by omega)⟩⟩⟩
  have h40 : hdn w n 0 = 0 := Nat.zero_min _
  have z4 : h1 49 4 = wdt w n := zr1.2.1
  have n1 : NT h1 := by
    unfold NT
    rw [F1 69 2 (by unfold f180; omega), F1 69 3 (by unfold f180; omega)]
    exact nt
  have st0 : ∀ (z3 : aV) (a : Nat), (a = 72 ∧ h1 69 2 = 72 ∧ h1 69 3 = 73) ∨ (a = 73 ∧ h1 69 2 = 73 ∧ h1 69 3 = 72) → ∀ s : Int, s = ((wdt w n - 1).toNat : Nat) → Wp X 3 179 38 [vr 69, vr 49, vi m, z3, vi s, vi 0] [] (upd2 (upd2 (upd2 h1 a 0 1) 69 5 0) 69 6 1) (fun v h => v = none ∧ Fr f179 h0 h ∧ NT h ∧ (0 < m → h 69 4 = WW sg (clp d) (Rw w n) (m - 1)) ∧ h 69 5 = hor (WW sg (clp d) (Rw w n)) m ∧ h 69 6 = 64 ^ m) := by
    intro z3 a ha s hs
    rw [hs]
    have a69 : (69 : Nat) ≠ a := by omega
    have e0 : ∀ x : Nat, x < 8 ^ hdn w n 0 → upd2 h1 a 0 1 a x = AV (wtC w n sg d) (hitC w n) (nxC w n) (fun t => 8 ^ hdn w n t) 0 0 x := fun x hx => by
      rw [h40] at hx
      have hx : x = 0 := by omega
      rw [hx]
      exact upd2_s
    refine LT m 0 _ _ (Nat.zero_add m) (((G1.up (by unfold f179; omega)).up (by unfold f179; omega)).up (by unfold f179; omega)) (fun c hc => ?_) ?_ (fun q => absurd q (by omega)) ?_ ?_
    · rw [upd2_ne (by decide), upd2_ne (by decide), upd2_ne (by omega)]; exact e71 c hc
    · rcases ha with ⟨ra, r2, r3⟩ | ⟨ra, r2, r3⟩
      · subst ra
        refine .inl ⟨?_, ?_, fun x hx => ?_⟩
        · rw [upd2_o (by decide), upd2_o (by decide), upd2_ne (by decide)]; exact r2
        · rw [upd2_o (by decide), upd2_o (by decide), upd2_ne (by decide)]; exact r3
        · rw [upd2_ne (a := 69) (b := 72) (by decide), upd2_ne (a := 69) (b := 72) (by decide)]; exact e0 x hx
      · subst ra
        refine .inr ⟨?_, ?_, fun x hx => ?_⟩
        · rw [upd2_o (by decide), upd2_o (by decide), upd2_ne (by decide)]; exact r2
        · rw [upd2_o (by decide), upd2_o (by decide), upd2_ne (by decide)]; exact r3
        · rw [upd2_ne (a := 69) (b := 73) (by decide), upd2_ne (a := 69) (b := 73) (by decide)]; exact e0 x hx
    · rw [upd2_o (by decide), upd2_s]; rfl
    · rw [upd2_s]; rfl
  have nt2 : (h1 69 2) = 72 ∨ (h1 69 2) = 73 := n1.elim (fun q => .inl q.1) (fun q => .inr q.1)
  have t72 : h1 69 2 = 72 → h1 69 3 = 73 := fun q => n1.elim (fun r => r.2) (fun r => absurd (q.symm.trans r.1) (by decide))
  have t73 : h1 69 2 = 73 → h1 69 3 = 72 := fun q => n1.elim (fun r => absurd (q.symm.trans r.1) (by decide)) (fun r => r.2)
  refine S179_69_49_6 _ _ ?_
  rw [z4]
  exact ⟨by unfold R32; omega, fun q => ⟨nt2, fun e => st0 _ 72 (.inl ⟨rfl, e, t72 e⟩) _ (by omega), fun e => st0 _ 73 (.inr ⟨rfl, e, t73 e⟩) _ (by omega)⟩, fun q => ⟨nt2, fun e => st0 _ 72 (.inl ⟨rfl, e, t72 e⟩) _ (by omega), fun e => st0 _ 73 (.inr ⟨rfl, e, t73 e⟩) _ (by omega)⟩⟩
/-- the weights of the first of the classes that are counted alike -/
theorem K180_57 {h0 : HP} {w : Int → Int} {n : Nat} {d : Int} {sg : Nat → Int} (zr : ZR 57 h0 w n) (hd : -7 ≤ d ∧ d ≤ 7) (hs : ∀ c : Nat, c < 8 → h0 70 c = sg c) (hs0 : ∀ c, c < 8 → 0 ≤ sg c) (h64 : sn sg 8 = 64) : Wp X 2 180 0 [vr 69, vr 57, vi d, vu, vu, vu] [] h0 (fun v h => v = none ∧ Fr f180 h0 h ∧ ∀ c : Nat, c < 8 → h 71 c = wtC w n sg d c) := by
  have LA : ∀ (j c : Nat) (h : HP) (z4 z5 : aV), c + j = 8 → Fr f180 h0 h → (∀ b : Nat, b < 8 → h 71 b = sn (fun i => if fst' w n (clp d i) = b then sg i else 0) c) → Wp X 2 180 23 [vr 69, vr 57, vi d, vi c, z4, z5] [] h (fun v h => v = none ∧ Fr f180 h0 h ∧ ∀ c : Nat, c < 8 → h 71 c = wtC w n sg d c) := by
    intro j
    induction j with
    | zero =>
      intro c h z4 z5 hc F e
      have hc : c = 8 := by omega
      subst hc
      exact S180_69_57_23 _ _ _ _ ⟨fun _ => ⟨rfl, F, e⟩, fun q => absurd q (by omega)⟩
    | succ j ih =>
      intro c h z4 z5 hc F e
      have zr1 : ZR 57 h w n := zr.fr F (by unfold f180; omega) (by unfold f180; omega) (fun a j a1 a2 => by unfold f180; omega)
      have e70 : h 70 c = sg c := (F 70 c (by unfold f180; omega)).trans (hs c (by omega))
      have sx := hs0 c (by omega)
      have cl8 := clp_lt (d := d) (c := c)
      have zl : h 60 0 = lg (pkH (gsl w n 0) 8) := zr1.2.2.2 0 (by omega)
      have nA : ∀ s : Nat, s < 8 → (i64 (h 58 (s : Int)) &&& i64 (h 60 0)).toInt = lg (lA w n s) := fun s hs => by
        rw [show h 58 (s : Int) = lg (pkH (gab w n s) 8) from (zr1.2.2.1 s (by omega)).1, zl, lg_and, pkH_and gab_lt gsl_lt]; rfl
      have nB : ∀ s : Nat, s < 8 → (i64 (h 59 (s : Int)) &&& i64 (h 60 0)).toInt = lg (lB w n s) := fun s hs => by
        rw [show h 59 (s : Int) = lg (pkH (gbl w n s) 8) from (zr1.2.2.1 s (by omega)).2, zl, lg_and, pkH_and gbl_lt gsl_lt]; rfl
      have ltA : ∀ s, lA w n s < 2 ^ 64 := fun s => pkH_lt (g := fun i => gab w n s i &&& gsl w n 0 i) (fun i => Nat.lt_of_le_of_lt Nat.and_le_right (gsl_lt i)) 8
      have ltB : ∀ s, lB w n s < 2 ^ 64 := fun s => pkH_lt (g := fun i => gbl w n s i &&& gsl w n 0 i) (fun i => Nat.lt_of_le_of_lt Nat.and_le_right (gsl_lt i)) 8
      -- the weight is added
      have add : ∀ (f : Nat), f = fst' w n (clp d c) → f < 8 → ∀ z4 : aV, (0 ≤ (f : Int) ∧ (f : Int) < 8) ∧ ((0 ≤ (c : Int) ∧ (c : Int) < 8) ∧ ((R32 ((h 71 f) + (h 70 c))) ∧ Wp X 2 180 23 [vr 69, vr 57, vi d, vi ((c : Int) + 1), z4, vi f] [] (upd2 h 71 f ((h 71 f) + (h 70 c))) (fun v h => v = none ∧ Fr f180 h0 h ∧ ∀ c : Nat, c < 8 → h 71 c = wtC w n sg d c))) := by
        intro f hf f8 z4
        have ey := e f f8
        have r1 : 0 ≤ sn (fun i => if fst' w n (clp d i) = f then sg i else 0) c := sn_nn fun i hi => by have := hs0 i (by omega); split <;> omega
        have r2 : sn (fun i => if fst' w n (clp d i) = f then sg i else 0) c ≤ sn sg c := sn_mono fun i hi => by have := hs0 i (by omega); split <;> omega
        have r3 : sn sg (c + 1) ≤ sn sg 8 := sn_up (by omega) hs0
        have r4 : sn sg (c + 1) = sn sg c + sg c := rfl
        refine ⟨⟨by omega, by omega⟩, ⟨by omega, by omega⟩, by rw [ey, e70]; unfold R32; omega, ih (c + 1) _ _ _ (by omega) (F.up rfl) fun b hb => ?_⟩
        rw [upd2_at, e70]
        show _ = sn (fun i => if fst' w n (clp d i) = b then sg i else 0) c + (if fst' w n (clp d c) = b then sg c else 0)
        by_cases q : f = b
        · rw [if_pos (by omega), ey, if_pos (by omega), q]
        · rw [if_neg (by omega), if_neg (by omega), Int.add_zero]
          exact e b hb
      -- the first that is alike
      have LF : ∀ (k f : Nat), f + k = clp d c → fst' w n (clp d c) = fsF (fun g => alk w n g (clp d c)) k f → Wp X 2 180 46 [vr 69, vr 57, vi d, vi c, vi (clp d c : Nat), vi f] [] h (fun v h => v = none ∧ Fr f180 h0 h ∧ ∀ c : Nat, c < 8 → h 71 c = wtC w n sg d c) := by
        intro k
        induction k with
        | zero =>
          intro f hf hfs
          exact S180_69_57_46 _ _ _ _ ⟨fun _ => add f hfs.symm (by omega) _, fun q => absurd q (by omega)⟩
        | succ k ihk =>
          intro f hf hfs
          have hfs : fst' w n (clp d c) = if alk w n f (clp d c) then f else fsF (fun g => alk w n g (clp d c)) k (f + 1) := hfs
          refine S180_69_57_46 _ _ _ _ ⟨fun q => absurd q (by omega), fun _ => ⟨fun q => absurd q (by omega), fun _ => ⟨fun q => absurd q (by omega), fun _ => ⟨fun q => absurd q (by omega), fun _ => ⟨fun q => absurd q (by omega), fun _ => ?_⟩⟩⟩⟩⟩
          rw [nA f (by omega), nA (clp d c) cl8, nB f (by omega), nB (clp d c) cl8]
          have no : ¬ (lA w n f = lA w n (clp d c) ∧ lB w n f = lB w n (clp d c)) → Wp X 2 180 46 [vr 69, vr 57, vi d, vi c, vi (clp d c : Nat), vi ((f : Int) + 1)] [] h (fun v h => v = none ∧ Fr f180 h0 h ∧ ∀ c : Nat, c < 8 → h 71 c = wtC w n sg d c) := by
            intro q
            have qa : alk w n f (clp d c) = false := decide_eq_false q
            rw [if_neg (by rw [qa]; decide)] at hfs
            exact ihk (f + 1) (by omega) hfs
          refine ⟨fun q => no (fun c => Eq.mp lcp_n q (congrArg lg c.1)), fun q => ⟨fun q2 => no (fun c => Eq.mp lcp_n q2 (congrArg lg c.2)), fun q2 => ?_⟩⟩
          have qa : alk w n f (clp d c) = true := decide_eq_true ⟨lg_inj (ltA _) (ltA _) (Eq.mp lcp_e q), lg_inj (ltB _) (ltB _) (Eq.mp lcp_e q2)⟩
          rw [if_pos qa] at hfs
          exact add f hfs.symm (by omega) _
      have g := LF (clp d c) 0 (Nat.zero_add _) rfl
      have go : ∀ s : Int, s = (clp d c : Nat) → Wp X 2 180 46 [vr 69, vr 57, vi d, vi c, vi s, vi 0] [] h (fun v h => v = none ∧ Fr f180 h0 h ∧ ∀ c : Nat, c < 8 → h 71 c = wtC w n sg d c) := by
        intro s hs
        rw [hs]
        exact g
      refine S180_69_57_23 _ _ _ _ ⟨fun q => absurd q (by omega), fun _ => ⟨by unfold R32; omega, fun q => ⟨fun q2 => go _ ?_, fun q2 => go _ ?_⟩, fun q => go _ ?_⟩⟩
      · unfold clp; rw [if_neg (by omega), if_neg (by omega)]; omega
      · unfold clp
        by_cases q3 : (c : Int) + d < 0
        · rw [if_pos q3]; rfl
        · rw [if_neg q3, if_neg (by omega)]; omega
      · unfold clp
        rw [if_neg (by omega)]
        by_cases q3 : 7 < (c : Int) + d
        · rw [if_pos q3]; rfl
        · rw [if_neg q3]; omega
  have LB : ∀ (j c : Nat) (h : HP), c + j = 8 → Fr f180 h0 h → (∀ b : Nat, b < c → h 71 b = 0) → Wp X 2 180 2 [vr 69, vr 57, vi d, vi c, vu, vu] [] h (fun v h => v = none ∧ Fr f180 h0 h ∧ ∀ c : Nat, c < 8 → h 71 c = wtC w n sg d c) := by
    intro j
    induction j with
    | zero =>
      intro c h hc F e
      exact S180_69_57_2 _ _ ⟨fun _ => LA 8 0 h _ _ rfl F (fun b hb => e b (by omega)), fun q => absurd q (by omega)⟩
    | succ j ih =>
      intro c h hc F e
      refine S180_69_57_2 _ _ ⟨fun q => absurd q (by omega), fun _ => ⟨⟨by omega, by omega⟩, ih (c + 1) _ (by omega) (F.up rfl) fun b hb => ?_⟩⟩
      rw [upd2_at]
      by_cases q : b = c
      · rw [if_pos (by omega)]
      · rw [if_neg (by omega)]; exact e b (by omega)
  exact S180_69_57_0 _ (LB 8 0 h0 rfl Fr.rf (fun b hb => absurd hb (Nat.not_lt_zero b)))
/-- how soon the class's rules warn -/
theorem K179_57 {h0 : HP} {w : Int → Int} {n m : Nat} {d : Int} {sg : Nat → Int} (z : Zok w n) (zr : ZR 57 h0 w n) (nt : NT h0) (hm : m ≤ 9) (hd : -7 ≤ d ∧ d ≤ 7) (hs : ∀ c : Nat, c < 8 → h0 70 c = sg c) (hs0 : ∀ c, c < 8 → 0 ≤ sg c) (h64 : sn sg 8 = 64) : Wp X 3 179 0 [vr 69, vr 57, vi m, vi d, vu, vu] [] h0 (fun v h => v = none ∧ Fr f179 h0 h ∧ NT h ∧ (0 < m → h 69 4 = WW sg (clp d) (Rw w n) (m - 1)) ∧ h 69 5 = hor (WW sg (clp d) (Rw w n)) m ∧ h 69 6 = 64 ^ m) := by
  have rd := Rd_C (d := d) (sg := sg) z
  have wl := wdt_le (w := w) n (fun i hi _ => (z.2 i hi).2.2.2.1)
  have hN : ∀ t, hdn w n t ≤ 4 := fun t => by unfold hdn; omega
  refine S179_69_57_0 _ _ ((K180_57 zr hd hs hs0 h64).mono fun v h1 _ f => ?_)
  obtain ⟨rfl, F1, e71⟩ := f
  have zr1 : ZR 57 h1 w n := zr.fr F1 (by unfold f180; omega) (by unfold f180; omega) (fun a j a1 a2 => by unfold f180; omega)
  have G1 : Fr f179 h0 h1 := F1.mo fun a j c => by unfold f180 at c; unfold f179; omega
  -- the steps
  have LT : ∀ (k t : Nat) (h : HP) (z3 : aV), t + k = m → Fr f179 h0 h → (∀ c : Nat, c < 8 → h 71 c = wtC w n sg d c) → ((h 69 2 = 72 ∧ h 69 3 = 73 ∧ ∀ x : Nat, x < 8 ^ hdn w n t → h 72 x = AV (wtC w n sg d) (hitC w n) (nxC w n) (fun t => 8 ^ hdn w n t) 0 t x) ∨ (h 69 2 = 73 ∧ h 69 3 = 72 ∧ ∀ x : Nat, x < 8 ^ hdn w n t → h 73 x = AV (wtC w n sg d) (hitC w n) (nxC w n) (fun t => 8 ^ hdn w n t) 0 t x)) → (0 < t → h 69 4 = WW sg (clp d) (Rw w n) (t - 1)) → h 69 5 = hor (WW sg (clp d) (Rw w n)) t → h 69 6 = 64 ^ t → Wp X 3 179 38 [vr 69, vr 57, vi m, z3, vi ((wdt w n - 1).toNat : Nat), vi t] [] h (fun v h => v = none ∧ Fr f179 h0 h ∧ NT h ∧ (0 < m → h 69 4 = WW sg (clp d) (Rw w n) (m - 1)) ∧ h 69 5 = hor (WW sg (clp d) (Rw w n)) m ∧ h 69 6 = 64 ^ m) := by
    intro k
    induction k with
    | zero =>
      intro t h z3 ht F ew st e4 e5 e6
      have ht : t = m := by omega
      subst ht
      exact S179_69_57_38 _ _ _ _ ⟨fun _ => ⟨rfl, F, st.elim (fun s => .inl ⟨s.1, s.2.1⟩) (fun s => .inr ⟨s.1, s.2.1⟩), e4, e5, e6⟩, fun q => absurd q (by omega)⟩
    | succ k ih =>
      intro t h z3 ht F ew st e4 e5 e6
      have zh : ZR 57 h w n := zr.fr F (by unfold f179; omega) (by unfold f179; omega) (fun a j a1 a2 => by unfold f179; omega)
      have B : B182 (wtC w n sg d) (AV (wtC w n sg d) (hitC w n) (nxC w n) (fun t => 8 ^ hdn w n t) 0 t) (fun x c => Rw w n (eC x (hdn w n t) c)) (fun x c => (8 * x + c) % 8 ^ hdn w n (t + 1)) (8 ^ hdn w n t) := by
        have pp : ∀ x, 0 ≤ AV (wtC w n sg d) (hitC w n) (nxC w n) (fun t => 8 ^ hdn w n t) 0 t x ∧ AV (wtC w n sg d) (hitC w n) (nxC w n) (fun t => 8 ^ hdn w n t) 0 t x ≤ 281474976710656 := fun x => by
          have r := AV_r rd hs0 h64 t x
          have p : ∀ t : Nat, t < 9 → (64 : Int) ^ t ≤ 281474976710656 := by decide
          exact ⟨r.1, Int.le_trans r.2 (p t (by omega))⟩
        have p9 := p64 (t + 1) (by omega)
        have wn : ∀ c, 0 ≤ wtC w n sg d c := fun c => sn_nn fun i hi => by have := hs0 i hi; split <;> omega
        refine ⟨pp, fun c hc => wt_r rd hs0 h64 hc, fun x c hx hc => ⟨fun y => ?_, ?_⟩⟩
        · have nn : ∀ x c, 0 ≤ zV (AV (wtC w n sg d) (hitC w n) (nxC w n) (fun t => 8 ^ hdn w n t) 0 t) (wtC w n sg d) (fun x c => Rw w n (eC x (hdn w n t) c)) (fun x c => (8 * x + c) % 8 ^ hdn w n (t + 1)) y x c := fun x c => by
            unfold zV
            split
            · exact Int.le_refl 0
            · split
              · exact Int.mul_nonneg (pp x).1 (wn c)
              · exact Int.le_refl 0
          have b := pG_b (n := 8 ^ hdn w n t) nn hx (show c ≤ 8 by omega)
          have r := (AV_r rd hs0 h64 (t + 1) y).2
          have ee : AV (wtC w n sg d) (hitC w n) (nxC w n) (fun t => 8 ^ hdn w n t) 0 (t + 1) y = sn (fun x => sn (zV (AV (wtC w n sg d) (hitC w n) (nxC w n) (fun t => 8 ^ hdn w n t) 0 t) (wtC w n sg d) (fun x c => Rw w n (eC x (hdn w n t) c)) (fun x c => (8 * x + c) % 8 ^ hdn w n (t + 1)) y x) 8) (8 ^ hdn w n t) := rfl
          rw [ee] at r
          exact ⟨b.1, Int.le_trans b.2 (Int.le_trans r p9.2)⟩
        · have nn : ∀ x c, 0 ≤ zJ (AV (wtC w n sg d) (hitC w n) (nxC w n) (fun t => 8 ^ hdn w n t) 0 t) (wtC w n sg d) (fun x c => Rw w n (eC x (hdn w n t) c)) x c := fun x c => by
            unfold zJ
            split
            · exact Int.mul_nonneg (pp x).1 (wn c)
            · exact Int.le_refl 0
          have b := pG_b (n := 8 ^ hdn w n t) nn hx (show c ≤ 8 by omega)
          have r := (WW_r (cl := clp d) (R := Rw w n) hs0 h64 t).2
          rw [← AJ_WW rd] at r
          have ee : AJ (wtC w n sg d) (hitC w n) (nxC w n) (fun t => 8 ^ hdn w n t) 0 t = sn (fun x => sn (zJ (AV (wtC w n sg d) (hitC w n) (nxC w n) (fun t => 8 ^ hdn w n t) 0 t) (wtC w n sg d) (fun x c => Rw w n (eC x (hdn w n t) c)) x) 8) (8 ^ hdn w n t) := rfl
          rw [ee] at r
          exact ⟨b.1, Int.le_trans b.2 (Int.le_trans r p9.2)⟩
      have hw := WW_r (cl := clp d) (R := Rw w n) hs0 h64
      have hb := hor_le (cl := clp d) (R := Rw w n) hs0 h64 t
      have hb1 := hor_le (cl := clp d) (R := Rw w n) hs0 h64 (t + 1)
      have wt := hw t
      have p0 := p64 t (by omega)
      have p1 := p64 (t + 1) (by omega)
      have ps : (64 : Int) ^ (t + 1) = 64 ^ t * 64 := Int.pow_succ _ _
      have hh : hor (WW sg (clp d) (Rw w n)) (t + 1) = hor (WW sg (clp d) (Rw w n)) t * 64 + WW sg (clp d) (Rw w n) t := rfl
      -- behind a step
      have nxt : ∀ h2 : HP, Fr f181 h h2 → ((h2 69 2 = 72 ∧ h2 69 3 = 73 ∧ ∀ x : Nat, x < 8 ^ hdn w n (t + 1) → h2 72 x = AV (wtC w n sg d) (hitC w n) (nxC w n) (fun t => 8 ^ hdn w n t) 0 (t + 1) x) ∨ (h2 69 2 = 73 ∧ h2 69 3 = 72 ∧ ∀ x : Nat, x < 8 ^ hdn w n (t + 1) → h2 73 x = AV (wtC w n sg d) (hitC w n) (nxC w n) (fun t => 8 ^ hdn w n t) 0 (t + 1) x)) → h2 69 4 = WW sg (clp d) (Rw w n) t → Wp X 3 179 65 [vr 69, vr 57, vi m, z3, vi ((wdt w n - 1).toNat : Nat), vi t] [] h2 (fun v h => v = none ∧ Fr f179 h0 h ∧ NT h ∧ (0 < m → h 69 4 = WW sg (clp d) (Rw w n) (m - 1)) ∧ h 69 5 = hor (WW sg (clp d) (Rw w n)) m ∧ h 69 6 = 64 ^ m) := by
        intro h2 F2 st2 f4
        have f5 : h2 69 5 = hor (WW sg (clp d) (Rw w n)) t := (F2 69 5 (by unfold f181; omega)).trans e5
        have f6 : h2 69 6 = 64 ^ t := (F2 69 6 (by unfold f181; omega)).trans e6
        have G2 : Fr f179 h0 h2 := F.tr (F2.mo fun a j c => by unfold f181 at c; unfold f179; omega)
        refine S179_69_57_65 _ _ _ _ ?_
        rw [f4, f5, f6]
        refine ⟨by unfold R64; omega, by unfold R64; omega, by unfold R64; omega, by unfold R32; omega, ih (t + 1) _ _ (by omega) ((G2.up (by unfold f179; omega)).up (by unfold f179; omega)) (fun c hc => ?_) ?_ (fun _ => ?_) ?_ ?_⟩
        · rw [upd2_ne (by decide), upd2_ne (by decide)]
          exact (F2 71 c (by unfold f181; omega)).trans (ew c hc)
        · rw [upd2_o (by decide), upd2_o (by decide), upd2_o (by decide), upd2_o (by decide), upd2_ne (a := 69) (b := 72) (by decide), upd2_ne (a := 69) (b := 73) (by decide), upd2_ne (a := 69) (b := 72) (by decide), upd2_ne (a := 69) (b := 73) (by decide)]
          exact st2
        · rw [upd2_o (by decide), upd2_o (by decide)]; exact f4
        · rw [upd2_o (by decide), upd2_s]; rfl
        · rw [upd2_s, ps]
      have go : ∀ a c : Int, a = (hdn w n t : Nat) → c = (hdn w n (t + 1) : Nat) → Wp X 2 181 0 [vr 69, vr 57, vi a, vi c, vu, vu, vu] [] h (fun v h' => Wp X 3 179 65 [vr 69, vr 57, vi m, z3, vi ((wdt w n - 1).toNat : Nat), vi t] (psh v []) h' (fun v h => v = none ∧ Fr f179 h0 h ∧ NT h ∧ (0 < m → h 69 4 = WW sg (clp d) (Rw w n) (m - 1)) ∧ h 69 5 = hor (WW sg (clp d) (Rw w n)) m ∧ h 69 6 = 64 ^ m)) := by
        intro a c ha hc
        rw [ha, hc]
        have ej : pG (zJ (AV (wtC w n sg d) (hitC w n) (nxC w n) (fun t => 8 ^ hdn w n t) 0 t) (wtC w n sg d) (fun x c => Rw w n (eC x (hdn w n t) c))) (8 ^ hdn w n t) 0 = WW sg (clp d) (Rw w n) t := by
          rw [pG_end, ← AJ_WW rd]; rfl
        have ev : ∀ y, pG (zV (AV (wtC w n sg d) (hitC w n) (nxC w n) (fun t => 8 ^ hdn w n t) 0 t) (wtC w n sg d) (fun x c => Rw w n (eC x (hdn w n t) c)) (fun x c => (8 * x + c) % 8 ^ hdn w n (t + 1)) y) (8 ^ hdn w n t) 0 = AV (wtC w n sg d) (hitC w n) (nxC w n) (fun t => 8 ^ hdn w n t) 0 (t + 1) y := fun y => by
          rw [pG_end]; rfl
        rcases st with s | s
        · refine (K181_57_72 z zh ew (hN t) (hN (t + 1)) s.1 s.2.1 s.2.2 B).mono fun v h2 _ f => ?_
          obtain ⟨rfl, F2, b2, b3, b4, b5⟩ := f
          exact nxt h2 F2 (.inr ⟨b2, b3, fun x hx => (b4 x hx).trans (ev x)⟩) (b5.trans ej)
        · refine (K181_57_73 z zh ew (hN t) (hN (t + 1)) s.1 s.2.1 s.2.2 B).mono fun v h2 _ f => ?_
          obtain ⟨rfl, F2, b2, b3, b4, b5⟩ := f
          exact nxt h2 F2 (.inl ⟨b2, b3, fun x hx => (b4 x hx).trans (ev x)⟩) (b5.trans ej)
      have hd1 : hdn w n t = min t (wdt w n - 1).toNat := rfl
      have hd2 : hdn w n (t + 1) = min (t + 1) (wdt w n - 1).toNat := rfl
      exact S179_69_57_38 _ _ _ _ ⟨fun q => absurd q (by omega), fun _ => ⟨fun q => ⟨by unfold R32; omega, fun q2 => go _ _ (by omega) (by omega), fun q2 => go _ _ (by omega) (by omega)⟩, fun q => ⟨by unfold R32; omega, fun q2 => go _ _ (by omega) (by omega), fun q2 => go _ _ (by omega) (by omega)⟩⟩⟩
  have h40 : hdn w n 0 = 0 := Nat.zero_min _
  have z4 : h1 57 4 = wdt w n := zr1.2.1
  have n1 : NT h1 := by
    unfold NT
    rw [F1 69 2 (by unfold f180; omega), F1 69 3 (by unfold f180; omega)]
    exact nt
  have st0 : ∀ (z3 : aV) (a : Nat), (a = 72 ∧ h1 69 2 = 72 ∧ h1 69 3 = 73) ∨ (a = 73 ∧ h1 69 2 = 73 ∧ h1 69 3 = 72) → ∀ s : Int, s = ((wdt w n - 1).toNat : Nat) → Wp X 3 179 38 [vr 69, vr 57, vi m, z3, vi s, vi 0] [] (upd2 (upd2 (upd2 h1 a 0 1) 69 5 0) 69 6 1) (fun v h => v = none ∧ Fr f179 h0 h ∧ NT h ∧ (0 < m → h 69 4 = WW sg (clp d) (Rw w n) (m - 1)) ∧ h 69 5 = hor (WW sg (clp d) (Rw w n)) m ∧ h 69 6 = 64 ^ m) := by
    intro z3 a ha s hs
    rw [hs]
    have a69 : (69 : Nat) ≠ a := by omega
    have e0 : ∀ x : Nat, x < 8 ^ hdn w n 0 → upd2 h1 a 0 1 a x = AV (wtC w n sg d) (hitC w n) (nxC w n) (fun t => 8 ^ hdn w n t) 0 0 x := fun x hx => by
      rw [h40] at hx
      have hx : x = 0 := by omega
      rw [hx]
      exact upd2_s
    refine LT m 0 _ _ (Nat.zero_add m) (((G1.up (by unfold f179; omega)).up (by unfold f179; omega)).up (by unfold f179; omega)) (fun c hc => ?_) ?_ (fun q => absurd q (by omega)) ?_ ?_
    · rw [upd2_ne (by decide), upd2_ne (by decide), upd2_ne (by omega)]; exact e71 c hc
    · rcases ha with ⟨ra, r2, r3⟩ | ⟨ra, r2, r3⟩
      · subst ra
        refine .inl ⟨?_, ?_, fun x hx => ?_⟩
        · rw [upd2_o (by decide), upd2_o (by decide), upd2_ne (by decide)]; exact r2
        · rw [upd2_o (by decide), upd2_o (by decide), upd2_ne (by decide)]; exact r3
        · rw [upd2_ne (a := 69) (b := 72) (by decide), upd2_ne (a := 69) (b := 72) (by decide)]; exact e0 x hx
      · subst ra
        refine .inr ⟨?_, ?_, fun x hx => ?_⟩
        · rw [upd2_o (by decide), upd2_o (by decide), upd2_ne (by decide)]; exact r2
        · rw [upd2_o (by decide), upd2_o (by decide), upd2_ne (by decide)]; exact r3
        · rw [upd2_ne (a := 69) (b := 73) (by decide), upd2_ne (a := 69) (b := 73) (by decide)]; exact e0 x hx
    · rw [upd2_o (by decide), upd2_s]; rfl
    · rw [upd2_s]; rfl
  have nt2 : (h1 69 2) = 72 ∨ (h1 69 2) = 73 := n1.elim (fun q => .inl q.1) (fun q => .inr q.1)
  have t72 : h1 69 2 = 72 → h1 69 3 = 73 := fun q => n1.elim (fun r => r.2) (fun r => absurd (q.symm.trans r.1) (by decide))
  have t73 : h1 69 2 = 73 → h1 69 3 = 72 := fun q => n1.elim (fun r => absurd (q.symm.trans r.1) (by decide)) (fun r => r.2)
  refine S179_69_57_6 _ _ ?_
  rw [z4]
  exact ⟨by unfold R32; omega, fun q => ⟨nt2, fun e => st0 _ 72 (.inl ⟨rfl, e, t72 e⟩) _ (by omega), fun e => st0 _ 73 (.inr ⟨rfl, e, t73 e⟩) _ (by omega)⟩, fun q => ⟨nt2, fun e => st0 _ 72 (.inl ⟨rfl, e, t72 e⟩) _ (by omega), fun e => st0 _ 73 (.inr ⟨rfl, e, t73 e⟩) _ (by omega)⟩⟩
end
