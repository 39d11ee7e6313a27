section
variable {X : Nat × (Int → Int)}
/-- the weights of classes, shifted -/
theorem L114w {h0 : HP} {sg : Nat → Int} {d : Int} {m : Int} {Q : bQ} (hd : -7 ≤ d ∧ d ≤ 7) (hs : ∀ c : Nat, c < 8 → h0 111 c = sg c) (hs0 : ∀ c, c < 8 → 0 ≤ sg c) (h64 : sn sg 8 = 64) (cont : ∀ (h : HP) (z4 : aV), Fr f114 h0 h → (∀ c : Nat, c < 8 → h 112 c = wtM sg d c) → Wp X 2 114 79 [vr 89, vi m, vi d, vi 0, z4, vu, vu, vu] [] h Q) : Wp X 2 114 0 [vr 89, vi m, vi d, vu, vu, vu, vu, vu] [] h0 Q := by
  have L2 : ∀ (k x : Nat) (h : HP) (z4 : aV), x + k = 8 → Fr f114 h0 h → (∀ c : Nat, c < 8 → h 112 c = sn (fun i => if clp d i = c then sg i else 0) x) → Wp X 2 114 23 [vr 89, vi m, vi d, vi x, z4, vu, vu, vu] [] h Q := by
    intro k
    induction k with
    | zero =>
      intro x h z4 hk F e
      have hx : x = 8 := by omega
      subst hx
      exact S114_89_23 _ _ _ _ ⟨fun _ => cont h z4 F e, fun q => absurd q (by omega)⟩
    | succ k ih =>
      intro x h z4 hk F e
      have e1 : h 111 x = sg x := (F 111 x (by unfold f114; omega)).trans (hs x (by omega))
      have sx := hs0 x (by omega)
      have up : ∀ y : Int, y = (clp d x : Nat) → (R32 ((h 112 y) + (h 111 x))) ∧ Wp X 2 114 23 [vr 89, vi m, vi d, vi ((x : Int) + 1), vi ((x : Int) + d), vu, vu, vu] [] (upd2 h 112 y ((h 112 y) + (h 111 x))) Q := by
        intro y hy
        have cl := clp_lt (d := d) (c := x)
        have ey : h 112 y = sn (fun i => if clp d i = clp d x then sg i else 0) x := by rw [hy]; exact e (clp d x) cl
        have r1 : 0 ≤ sn (fun i => if clp d i = clp d x then sg i else 0) x := sn_nn fun i hi => by have := hs0 i (by omega); split <;> omega
        have r2 : sn (fun i => if clp d i = clp d x then sg i else 0) x ≤ sn sg x := sn_mono fun i hi => by have := hs0 i (by omega); split <;> omega
        have r3 : sn sg (x + 1) ≤ sn sg 8 := sn_up (by omega) hs0
        have r4 : sn sg (x + 1) = sn sg x + sg x := rfl
        refine ⟨by rw [ey, e1]; unfold R32; omega, ih (x + 1) _ _ (by omega) (F.up ⟨by decide, by decide⟩) fun c hc => ?_⟩
        rw [upd2_at, e1]
        show _ = sn (fun i => if clp d i = c then sg i else 0) x + (if clp d x = c then sg x else 0)
        by_cases q : clp d x = c
        · rw [if_pos (by omega), ey, if_pos q, q]
        · rw [if_neg (by omega), if_neg q, Int.add_zero]
          exact e c hc
      refine S114_89_23 _ _ _ _ ⟨fun q => absurd q (by omega), fun _ => ⟨by unfold R32; omega, fun q => ⟨fun q2 => ⟨⟨by omega, by omega⟩, up _ ?_⟩, fun q2 => ⟨⟨by omega, by omega⟩, up _ ?_⟩⟩, fun q => ⟨⟨by omega, by omega⟩, up _ ?_⟩⟩⟩
      · unfold clp; rw [if_neg (by omega), if_neg (by omega)]; omega
      · unfold clp; rw [if_neg (by omega), if_pos q2]; rfl
      · unfold clp; rw [if_pos q]; rfl
  have L1 : ∀ (k x : Nat) (h : HP), x + k = 8 → Fr f114 h0 h → (∀ c : Nat, c < x → h 112 c = 0) → Wp X 2 114 2 [vr 89, vi m, vi d, vi x, vu, vu, vu, vu] [] h Q := by
    intro k
    induction k with
    | zero =>
      intro x h hk F e
      exact S114_89_2 _ _ _ ⟨fun _ => L2 8 0 h _ rfl F (fun c hc => e c (by omega)), fun q => absurd q (by omega)⟩
    | succ k ih =>
      intro x h hk F e
      refine S114_89_2 _ _ _ ⟨fun q => absurd q (by omega), fun _ => ⟨⟨by omega, by omega⟩, ih (x + 1) _ (by omega) (F.up ⟨by decide, by decide⟩) fun c hc => ?_⟩⟩
      rw [upd2_at]
      by_cases q : c = x
      · rw [if_pos (by omega)]
      · rw [if_neg (by omega)]; exact e c (by omega)
  exact S114_89_0 _ _ (L1 8 0 h0 rfl Fr.rf (fun c hc => absurd hc (Nat.not_lt_zero c)))
/-- how soon the reference's rules warn -/
theorem K114 {h0 : HP} {w : Int → Int} {n m : Nat} {d : Int} {sg : Nat → Int} (ms : MS h0 w n) (z : Zok w n) (hm : m ≤ 9) (hd : -7 ≤ d ∧ d ≤ 7) (hs : ∀ c : Nat, c < 8 → h0 111 c = sg c) (hs0 : ∀ c, c < 8 → 0 ≤ sg c) (h64 : sn sg 8 = 64) : Wp X 2 114 0 [vr 89, vi m, vi d, vu, vu, vu, vu, vu] [] h0 (fun v h => v = none ∧ Fr f114 h0 h ∧ ∀ t : Nat, t < m → h 115 ((t : Int) + 1) = WW sg (clp d) (Rw w n) t) := by
  have rd := Rd_M (d := d) (sg := sg) z
  refine L114w hd hs hs0 h64 fun h1 z4 F1 e1 => ?_
  -- the loop over the groups
  have LT : ∀ (k t : Nat) (h : HP) (z2 z4 z5 z6 : aV), t + k = m → Fr f114 h0 h → (∀ c : Nat, c < 8 → h 112 c = wtM sg d c) → (∀ x : Nat, x < 6561 → h 113 x = AV (wtM sg d) (hitM w n) nxM (fun _ => 6561) 6560 t x) → (∀ j : Nat, j < t → h 115 ((j : Int) + 1) = WW sg (clp d) (Rw w n) j) → Wp X 2 114 112 [vr 89, vi m, z2, vi ((t : Int) + 1), z4, z5, z6, vu] [] h (fun v h => v = none ∧ Fr f114 h0 h ∧ ∀ t : Nat, t < m → h 115 ((t : Int) + 1) = WW sg (clp d) (Rw w n) t) := by
    intro k
    induction k with
    | zero =>
      intro t h z2 z4 z5 z6 hk F e112 e113 e115
      exact S114_89_112 _ _ _ _ _ _ ⟨fun _ => ⟨rfl, F, fun j hj => e115 j (by omega)⟩, fun q => absurd q (by omega)⟩
    | succ k ih =>
      intro t h z2 z4 z5 z6 hk F e112 e113 e115
      have B : B114 (wtM sg d) (AV (wtM sg d) (hitM w n) nxM (fun _ => 6561) 6560 t) (fun x c => Rw w n (eM x c)) (nxM t) := by
        have pp : ∀ x, 0 ≤ AV (wtM sg d) (hitM w n) nxM (fun _ => 6561) 6560 t x ∧ AV (wtM sg d) (hitM w n) nxM (fun _ => 6561) 6560 t x ≤ 281474976710656 := fun x => by
          have r := AV_r rd hs0 h64 t x
          have p : ∀ t : Nat, t < 9 → (64 : Int) ^ t ≤ 281474976710656 := by decide
          exact ⟨r.1, Int.le_trans r.2 (p t (by omega))⟩
        have pw : ∀ c, c < 8 → 0 ≤ wtM sg d c ∧ wtM sg d c ≤ 64 := fun c hc => wt_r rd hs0 h64 hc
        have p9 := p64 (t + 1) (by omega)
        refine ⟨pp, pw, fun x c hx hc => ⟨fun y => ?_, ?_⟩⟩
        · have nn : ∀ x c, 0 ≤ zV (AV (wtM sg d) (hitM w n) nxM (fun _ => 6561) 6560 t) (wtM sg d) (fun x c => Rw w n (eM x c)) (nxM t) y x c := fun x c => by
            unfold zV
            split
            · exact Int.le_refl 0
            · split
              · exact Int.mul_nonneg (pp x).1 (sn_nn fun i hi => by have := hs0 i hi; split <;> omega)
              · exact Int.le_refl 0
          have b := pG_b (n := 6561) nn hx (show c ≤ 8 by omega)
          have r := (AV_r rd hs0 h64 (t + 1) y).2
          have ee : AV (wtM sg d) (hitM w n) nxM (fun _ => 6561) 6560 (t + 1) y = sn (fun x => sn (zV (AV (wtM sg d) (hitM w n) nxM (fun _ => 6561) 6560 t) (wtM sg d) (fun x c => Rw w n (eM x c)) (nxM t) y x) 8) 6561 := rfl
          rw [ee] at r
          exact ⟨b.1, Int.le_trans b.2 (Int.le_trans r p9.2)⟩
        · have nn : ∀ x c, 0 ≤ zJ (AV (wtM sg d) (hitM w n) nxM (fun _ => 6561) 6560 t) (wtM sg d) (fun x c => Rw w n (eM x c)) x c := fun x c => by
            unfold zJ
            split
            · exact Int.mul_nonneg (pp x).1 (sn_nn fun i hi => by have := hs0 i hi; split <;> omega)
            · exact Int.le_refl 0
          have b := pG_b (n := 6561) nn hx (show c ≤ 8 by omega)
          have r := (WW_r (cl := clp d) (R := Rw w n) hs0 h64 t).2
          rw [← AJ_WW rd] at r
          have ee : AJ (wtM sg d) (hitM w n) nxM (fun _ => 6561) 6560 t = sn (fun x => sn (zJ (AV (wtM sg d) (hitM w n) nxM (fun _ => 6561) 6560 t) (wtM sg d) (fun x c => Rw w n (eM x c)) x) 8) 6561 := rfl
          rw [ee] at r
          exact ⟨b.1, Int.le_trans b.2 (Int.le_trans r p9.2)⟩
      -- the copy back
      have L3 : ∀ (k x : Nat) (h : HP) (z5 z6 : aV), x + k = 6561 → Fr f114 h0 h → (∀ c : Nat, c < 8 → h 112 c = wtM sg d c) → (∀ x : Nat, x < 6561 → h 114 x = AV (wtM sg d) (hitM w n) nxM (fun _ => 6561) 6560 (t + 1) x) → (∀ y : Nat, y < x → h 113 y = AV (wtM sg d) (hitM w n) nxM (fun _ => 6561) 6560 (t + 1) y) → (∀ j : Nat, j < t + 1 → h 115 ((j : Int) + 1) = WW sg (clp d) (Rw w n) j) → Wp X 2 114 269 [vr 89, vi m, z2, vi ((t : Int) + 1), vi x, z5, z6, vu] [] h (fun v h => v = none ∧ Fr f114 h0 h ∧ ∀ t : Nat, t < m → h 115 ((t : Int) + 1) = WW sg (clp d) (Rw w n) t) := by
        intro k2
        induction k2 with
        | zero =>
          intro x h z5 z6 hx F e112 e114 e113 e115
          exact S114_89_269 _ _ _ _ _ _ ⟨fun _ => ⟨by unfold R32; omega, ih (t + 1) h _ _ _ _ (by omega) F e112 (fun y hy => e113 y (by omega)) e115⟩, fun q => absurd q (by omega)⟩
        | succ k2 ih2 =>
          intro x h z5 z6 hx F e112 e114 e113 e115
          refine S114_89_269 _ _ _ _ _ _ ⟨fun q => absurd q (by omega), fun _ => ⟨⟨by omega, by omega⟩, ih2 (x + 1) _ _ _ (by omega) (F.up ⟨by decide, by decide⟩) (fun c hc => (congrFun (upd2_ne (by decide)) _).trans (e112 c hc)) (fun x hx => (congrFun (upd2_ne (by decide)) _).trans (e114 x hx)) (fun y hy => ?_) (fun j hj => (congrFun (upd2_ne (by decide)) _).trans (e115 j hj))⟩⟩
          rw [upd2_at]
          by_cases q : y = x
          · rw [if_pos (by omega), q]; exact e114 x (by omega)
          · rw [if_neg (by omega)]; exact e113 y (by omega)
      -- 114 is made empty
      have L0 : ∀ (k x : Nat) (h : HP), x + k = 6561 → Fr f114 h0 h → (∀ c : Nat, c < 8 → h 112 c = wtM sg d c) → (∀ x : Nat, x < 6561 → h 113 x = AV (wtM sg d) (hitM w n) nxM (fun _ => 6561) 6560 t x) → (∀ y : Nat, y < x → h 114 y = 0) → h 115 ((t : Int) + 1) = 0 → (∀ j : Nat, j < t → h 115 ((j : Int) + 1) = WW sg (clp d) (Rw w n) j) → Wp X 2 114 127 [vr 89, vi m, z2, vi ((t : Int) + 1), vi x, z5, z6, vu] [] h (fun v h => v = none ∧ Fr f114 h0 h ∧ ∀ t : Nat, t < m → h 115 ((t : Int) + 1) = WW sg (clp d) (Rw w n) t) := by
        intro k2
        induction k2 with
        | zero =>
          intro x h hx F e112 e113 e114 e0 e115
          refine S114_89_127 _ _ _ _ _ _ ⟨fun _ => L152 (W := WW sg (clp d) (Rw w n)) ms z (by omega) B (fun h z5 z6 s => ?_) 6561 0 h _ _ rfl ⟨F, e112, e113, fun y hy => e114 y (by omega), e0, e115⟩, fun q => absurd q (by omega)⟩
          refine L3 6561 0 h _ _ rfl s.1 s.2.1 (fun y hy => ?_) (fun y hy => absurd hy (Nat.not_lt_zero y)) (fun j hj => ?_)
          · rw [s.2.2.2.1 y hy, pG_end]; rfl
          · by_cases q : j = t
            · rw [q, s.2.2.2.2.1, pG_end, ← AJ_WW rd]; rfl
            · exact s.2.2.2.2.2 j (by omega)
        | succ k2 ih2 =>
          intro x h hx F e112 e113 e114 e0 e115
          refine S114_89_127 _ _ _ _ _ _ ⟨fun q => absurd q (by omega), fun _ => ⟨⟨by omega, by omega⟩, ih2 (x + 1) _ (by omega) (F.up ⟨by decide, by decide⟩) (fun c hc => (congrFun (upd2_ne (by decide)) _).trans (e112 c hc)) (fun x hx => (congrFun (upd2_ne (by decide)) _).trans (e113 x hx)) (fun y hy => ?_) ((congrFun (upd2_ne (by decide)) _).trans e0) (fun j hj => (congrFun (upd2_ne (by decide)) _).trans (e115 j hj))⟩⟩
          rw [upd2_at]
          by_cases q : y = x
          · rw [if_pos (by omega)]
          · rw [if_neg (by omega)]; exact e114 y (by omega)
      refine S114_89_112 _ _ _ _ _ _ ⟨fun q => absurd q (by omega), fun _ => ⟨⟨by omega, by omega⟩, ?_⟩⟩
      exact L0 6561 0 _ rfl (F.up ⟨by decide, by decide⟩) (fun c hc => (congrFun (upd2_ne (by decide)) _).trans (e112 c hc)) (fun x hx => (congrFun (upd2_ne (by decide)) _).trans (e113 x hx)) (fun y hy => absurd hy (Nat.not_lt_zero y)) upd2_s (fun j hj => (upd2_o (by omega)).trans (e115 j hj))
  -- the first state
  have LS : ∀ (k x : Nat) (h : HP) (z2 : aV), x + k = 6561 → Fr f114 h0 h → (∀ c : Nat, c < 8 → h 112 c = wtM sg d c) → (∀ y : Nat, y < x → h 113 y = if y = 6560 then 1 else 0) → Wp X 2 114 79 [vr 89, vi m, z2, vi x, z4, vu, vu, vu] [] h (fun v h => v = none ∧ Fr f114 h0 h ∧ ∀ t : Nat, t < m → h 115 ((t : Int) + 1) = WW sg (clp d) (Rw w n) t) := by
    intro k
    induction k with
    | zero =>
      intro x h z2 hx F e112 e113
      exact S114_89_79 _ _ _ _ ⟨fun _ => LT m 0 h _ _ _ _ (Nat.zero_add m) F e112 (fun y hy => e113 y (by omega)) (fun j hj => absurd hj (Nat.not_lt_zero j)), fun q => absurd q (by omega)⟩
    | succ k ih =>
      intro x h z2 hx F e112 e113
      refine S114_89_79 _ _ _ _ ⟨fun q => absurd q (by omega), fun _ => ⟨fun q => ⟨⟨by omega, by omega⟩, ih (x + 1) _ _ (by omega) (F.up ⟨by decide, by decide⟩) (fun c hc => (congrFun (upd2_ne (by decide)) _).trans (e112 c hc)) (fun y hy => ?_)⟩, fun q => ih (x + 1) _ _ (by omega) (F.up ⟨by decide, by decide⟩) (fun c hc => (congrFun (upd2_ne (by decide)) _).trans (e112 c hc)) (fun y hy => ?_)⟩⟩
      · rw [upd2_at]
        by_cases q2 : y = x
        · rw [if_pos (by omega), if_neg (by omega)]
        · rw [if_neg (by omega)]; exact e113 y (by omega)
      · rw [upd2_at]
        by_cases q2 : y = x
        · rw [if_pos (by omega), if_pos (by omega)]
        · rw [if_neg (by omega)]; exact e113 y (by omega)
  exact LS 6561 0 h1 _ rfl F1 e1 (fun y hy => absurd hy (Nat.not_lt_zero y))
theorem sh64 : ∀ k : Nat, k < 10 → (i64 1 <<< ((i32 (6 * (k : Int))).toInt64 &&& 63)).toInt = 64 ^ k := by decide +kernel
theorem K115 {h : HP} {W : Nat → Int} {m : Nat} (hm : m ≤ 9) (hW : ∀ t, 0 ≤ W t ∧ W t ≤ 64 ^ (t + 1)) (e : ∀ t : Nat, t < m → h 115 ((t : Int) + 1) = W t) : Wp X 1 115 0 [vr 89, vi m, vu, vu, vu] [] h (fun v h1 => v = some (vl (hor W m)) ∧ h1 = h) := by
  have L : ∀ (k a : Nat) (u : Int), a + k = m → u = hor W a * 64 ^ k → Wp X 1 115 5 [vr 89, vi m, vl u, vu, vi ((a : Int) + 1)] [] h (fun v h1 => v = some (vl (hor W m)) ∧ h1 = h) := by
    intro k
    induction k with
    | zero =>
      intro a u hk hu
      have ha : a = m := by omega
      refine S115_89_5 _ _ _ ⟨fun _ => ⟨?_, rfl⟩, fun q => absurd q (by omega)⟩
      rw [hu, ha, Int.pow_zero, Int.mul_one]
    | succ k ih =>
      intro a u hk hu
      have b := hor_r hW a
      have b2 := hor_r hW (a + 1)
      have w := hW a
      have p1 := p64 (a + 1) (by omega)
      have pk := p64 k (by omega)
      have e1 := e a (by omega)
      have es : (m : Int) - ((a : Int) + 1) = (k : Int) := by omega
      have eh : hor W (a + 1) = hor W a * 64 + W a := rfl
      have en : u + W a * 64 ^ k = hor W (a + 1) * 64 ^ k := by
        rw [eh, Int.add_mul, hu, Int.pow_succ, Int.mul_assoc, Int.mul_comm 64]
      have pm : (64 : Int) ^ (a + 1) * 64 ^ k = 64 ^ m := by rw [← Int.pow_add, show a + 1 + k = m by omega]
      have p9 := p64 m (by omega)
      have bu := mulB' b2.1 (Int.le_refl _) (show (0 : Int) ≤ 64 ^ k by omega) (Int.le_refl _)
      have bw := mulB' w.1 w.2 (show (0 : Int) ≤ 64 ^ k by omega) (Int.le_refl (64 ^ k))
      have bh : hor W (a + 1) * 64 ^ k ≤ (((a + 1 : Nat) : Int) * 64 ^ (a + 1)) * 64 ^ k := Int.mul_le_mul_of_nonneg_right b2.2 (by omega)
      rw [Int.mul_assoc, pm] at bh
      rw [pm] at bw
      have bh2 := mulB' (a := ((a + 1 : Nat) : Int)) (b := 64 ^ m) (A := 9) (B := 18014398509481984) (by omega) (by omega) (by omega) p9.2
      refine S115_89_5 _ _ _ ⟨fun q => absurd q (by omega), fun _ => ⟨⟨by omega, by omega⟩, ?_⟩⟩
      rw [es, e1, sh64 k (by omega), en]
      refine ⟨by unfold R32; omega, by unfold R32; omega, by unfold R64; omega, by unfold R64; omega, ih (a + 1) _ (by omega) rfl⟩
  have g := L m 0 0 (Nat.zero_add m) (Int.zero_mul _).symm
  exact S115_89_0 _ g
/-- all rules are of z -/
def zal (w : Int → Int) (n : Nat) : Bool := (List.range n).all fun i => decide (w (pos w i) = 122)
theorem zal_iff {w : Int → Int} {n : Nat} : zal w n = true ↔ ∀ i : Nat, i < n → w (pos w i) = 122 := by
  unfold zal
  rw [List.all_eq_true]
  exact ⟨fun H i hi => of_decide_eq_true (H i (List.mem_range.mpr hi)), fun H i hi => decide_eq_true (H i (List.mem_range.mp hi))⟩
/-- a text that chances are told of -/
abbrev zTx (w : Int → Int) (len : Int) : Prop := FA w len = -1 ∧ zal w (NRu w len) = true
theorem Zok_of {w : Int → Int} {len : Int} (h : zTx w len) : Zok w (NRu w len) := by
  have R := NRu_ok (w := w) (len := len)
  refine ⟨R.1, fun i hi => ?_⟩
  have o := R.2 i hi
  have f := flt_ok o.2 o.1
  have z := zal_iff.mp h.2 i hi
  omega
theorem f114_M : ∀ a j, f114 a j → fM a j := by
  intro a j c
  unfold f114 at c
  unfold fM scr
  omega
theorem K116 {b h : HP} {t : Int} (i : Inv b) (e : P h = P b) (ht : 0 ≤ t ∧ t < 2) : Wp X 4 116 0 [vr 89, vi t, vu, vu] [] h (fun v h' => v = some (vi (if zTx (Wt b t) (b 104 t) then 1 else 0)) ∧ Fr fM h h' ∧ P h' = P b ∧ (zTx (Wt b t) (b 104 t) → MS h' (Wt b t) (NRu (Wt b t) (b 104 t)))) := by
  have XX := i.1.2.2.2.1.1
  refine S116_89_0 _ ((K92n (b := b) ht XX rfl rfl e).mono fun v h1 _ f => ?_)
  obtain ⟨rfl, hP, F, m, r0, hr0, e24⟩ := f
  have F1 := F.mo (fun _ _ => fRd_M)
  have L : ∀ (k j : Nat) (x : Int) (z1 : aV), FA (Wt b t) (b 104 t) = -1 → j + k = NRu (Wt b t) (b 104 t) → (x = if zal (Wt b t) j = true then 1 else 0) → Wp X 4 116 17 [vr 89, z1, vi x, vi j] [] h1 (fun v h' => v = some (vi (if zTx (Wt b t) (b 104 t) then 1 else 0)) ∧ Fr fM h h' ∧ P h' = P b ∧ (zTx (Wt b t) (b 104 t) → MS h' (Wt b t) (NRu (Wt b t) (b 104 t)))) := by
    intro k
    induction k with
    | zero =>
      intro j x z1 hf hk hx
      have m1 := (m hf).1
      have hj : j = NRu (Wt b t) (b 104 t) := by omega
      refine S116_89_17 _ _ _ ⟨fun _ => ⟨by rw [hx]; split <;> omega, ?_, F1, hP, fun _ => m1⟩, fun q => absurd q (by rw [m1.1]; omega)⟩
      rw [hx, hj]
      by_cases q : zal (Wt b t) (NRu (Wt b t) (b 104 t)) = true
      · rw [if_pos q, if_pos ⟨hf, q⟩]
      · rw [if_neg q, if_neg (fun c => q c.2)]
    | succ k ih =>
      intro j x z1 hf hk hx
      have m1 := (m hf).1
      have m8 := (m hf).2.1
      have mj := m1.2 j (by omega)
      have zs : zal (Wt b t) (j + 1) = true ↔ zal (Wt b t) j = true ∧ Wt b t (pos (Wt b t) j) = 122 := by
        rw [zal_iff, zal_iff]
        exact ⟨fun H => ⟨fun i hi => H i (by omega), H j (by omega)⟩, fun H i hi => by
          by_cases q : i = j
          · rw [q]; exact H.2
          · exact H.1 i (by omega)⟩
      refine S116_89_17 _ _ _ ⟨fun q => absurd q (by rw [m1.1]; omega), fun _ => ⟨fun q => ⟨by unfold R32; omega, ih (j + 1) _ _ hf (by omega) ?_⟩, fun q => ⟨⟨by omega, by omega⟩, ?_⟩⟩⟩
      · rw [if_neg (fun c => ?_)]
        have := (zs.mp c).1
        rw [if_pos this] at hx
        omega
      · rw [mj.1]
        have zj : zal (Wt b t) j = true := by
          by_cases c : zal (Wt b t) j = true
          · exact c
          · rw [if_neg c] at hx; exact absurd hx q
        refine ⟨fun q2 => ih (j + 1) _ _ hf (by omega) ?_, fun q2 => ih (j + 1) _ _ hf (by omega) ?_⟩
        · rw [if_neg (fun c => q2 (zs.mp c).2)]
        · rw [if_pos (zs.mpr ⟨zj, q2⟩)]
  have no : FA (Wt b t) (b 104 t) ≠ -1 → ∀ (z1 : aV), Wp X 4 116 17 [vr 89, z1, vi 0, vi 0] [] h1 (fun v h' => v = some (vi (if zTx (Wt b t) (b 104 t) then 1 else 0)) ∧ Fr fM h h' ∧ P h' = P b ∧ (zTx (Wt b t) (b 104 t) → MS h' (Wt b t) (NRu (Wt b t) (b 104 t)))) := by
    intro hf z1
    have L0 : ∀ (k j : Nat) (z1 : aV), j + k = r0 → Wp X 4 116 17 [vr 89, z1, vi 0, vi j] [] h1 (fun v h' => v = some (vi (if zTx (Wt b t) (b 104 t) then 1 else 0)) ∧ Fr fM h h' ∧ P h' = P b ∧ (zTx (Wt b t) (b 104 t) → MS h' (Wt b t) (NRu (Wt b t) (b 104 t)))) := by
      intro k
      induction k with
      | zero =>
        intro j z1 hk
        exact S116_89_17 _ _ _ ⟨fun _ => ⟨.inl rfl, by rw [if_neg (fun c => hf c.1)], F1, hP, fun c => absurd c.1 hf⟩, fun q => absurd q (by rw [e24]; omega)⟩
      | succ k ih =>
        intro j z1 hk
        exact S116_89_17 _ _ _ ⟨fun q => absurd q (by rw [e24]; omega), fun _ => ⟨fun _ => ⟨by unfold R32; omega, ih (j + 1) _ (by omega)⟩, fun q => absurd rfl q⟩⟩
    exact L0 r0 0 z1 (Nat.zero_add r0)
  exact S116_89_5 _ _ ⟨fun q => no q _, fun q => L (NRu (Wt b t) (b 104 t)) 0 1 _ q (by omega) rfl⟩
theorem e111 {b h : HP} (e : P h = P b) : h 111 = b 111 := congrFun e 111
/-- the chances of classes -/
def sgO (b : HP) (c : Nat) : Int := b 111 c
theorem su_sn {f : Int → Int} : ∀ n : Nat, su f n = sn (fun c => f c) n
  | 0 => rfl
  | n + 1 => by
    show su f n + f n = sn (fun c => f c) n + f n
    rw [su_sn n]
theorem sgO_ok {b : HP} (i : Inv b) : (∀ c, c < 8 → 0 ≤ sgO b c) ∧ sn (sgO b) 8 = 64 := by
  have O := i.1.2.2.2.2.2.2.1
  exact ⟨fun c hc => (O.1 c (by omega) (by omega)).1, (su_sn 8).symm.trans O.2⟩
/-- how many ways warn first at the m-th group just; up to it -/
def wjO (b : HP) (t : Int) (d : Int) (m : Nat) : Int := WW (sgO b) (clp d) (Rw (Wt b t) (NRu (Wt b t) (b 104 t))) m
def wuO (b : HP) (t : Int) (d : Int) (m : Nat) : Int := hor (wjO b t d) m
theorem wjO_r {b : HP} (i : Inv b) {t d : Int} (m : Nat) : 0 ≤ wjO b t d m ∧ wjO b t d m ≤ 64 ^ (m + 1) := WW_r (sgO_ok i).1 (sgO_ok i).2 m
theorem M114 {b h : HP} {t d : Int} {m : Nat} (i : Inv b) (e : P h = P b) (hm : m ≤ 9) (hd : -7 ≤ d ∧ d ≤ 7) (hz : zTx (Wt b t) (b 104 t)) (ms : MS h (Wt b t) (NRu (Wt b t) (b 104 t))) : Wp X 2 114 0 [vr 89, vi m, vi d, vu, vu, vu, vu, vu] [] h (fun v h' => v = none ∧ Fr fM h h' ∧ P h' = P b ∧ MS h' (Wt b t) (NRu (Wt b t) (b 104 t)) ∧ ∀ j : Nat, j < m → h' 115 ((j : Int) + 1) = wjO b t d j) :=
  (K114 ms (Zok_of hz) hm hd (sg := sgO b) (fun c _ => congrFun (e111 e) c) (sgO_ok i).1 (sgO_ok i).2).mono fun v h1 _ f => ⟨f.1, f.2.1.mo f114_M, ((f.2.1.mo f114_M).fM_P).trans e, ms.fr f.2.1 (by unfold f114; omega) (fun a j a1 a2 => by unfold f114; omega), f.2.2⟩
/-- the answer of soon -/
def B_soon (b : HP) (t m d what how : Int) : Int := if zTx (Wt b t) (b 104 t) then prt (if what = 0 then wuO b t d m.toNat else wjO b t d (m.toNat - 1)) (64 ^ m.toNat) how else -9223372036854775805
theorem M118 {b h : HP} {t m d what how : Int} (i : Inv b) (e : P h = P b) (ht : 0 ≤ t ∧ t < 2) (hm : 1 ≤ m ∧ m ≤ 9) (hd : -7 ≤ d ∧ d ≤ 7) : Wp X 5 118 0 [vr 89, vi t, vi m, vi d, vi what, vi how] [] h (fun v h' => v = some (vl (B_soon b t m d what how)) ∧ Fr fM h h') := by
  obtain ⟨n, rfl⟩ : ∃ n : Nat, m = n := ⟨m.toNat, by omega⟩
  have p9 := p64 n (by omega)
  refine S118_89_0 _ _ _ _ _ ((K116 i e ht).mono fun v h1 _ f => ?_)
  obtain ⟨rfl, F1, e1, ms⟩ := f
  refine S118_89_5 _ _ _ _ _ _ ⟨fun q => ?_, fun q => ⟨?_, F1⟩⟩
  · have hz : zTx (Wt b t) (b 104 t) := by
      by_cases c : zTx (Wt b t) (b 104 t)
      · exact c
      · rw [if_neg c] at q; exact absurd rfl q
    have eB : B_soon b t n d what how = prt (if what = 0 then wuO b t d n else wjO b t d (n - 1)) (64 ^ n) how := if_pos hz
    rw [eB]
    refine (M114 i e1 (by omega) hd hz (ms hz)).mono fun v h2 _ f => ?_
    obtain ⟨rfl, F2, e2, -, e115⟩ := f
    have fin : ∀ (s0 : Int) (z1 z3 z4 : aV), s0 = (if what = 0 then wuO b t d n else wjO b t d (n - 1)) → 0 ≤ s0 ∧ s0 < 4611686018427387904 → Wp X 5 118 39 [vr 89, z1, vi n, z3, z4, vi how] [vl s0] h2 (fun v h' => v = some (vl (prt (if what = 0 then wuO b t d n else wjO b t d (n - 1)) (64 ^ n) how)) ∧ Fr fM h h') := by
      intro s0 z1 z3 z4 hs hb
      refine S118_89_39 _ _ _ _ _ _ _ ⟨by unfold R32; omega, ?_⟩
      rw [sh64 n (by omega)]
      refine (K61 hb ⟨by omega, by omega⟩).mono fun v h3 _ f => ?_
      obtain ⟨rfl, rfl⟩ := f
      exact S118_89_48 _ _ _ _ _ _ _ ⟨by rw [hs], F1.tr F2⟩
    refine S118_89_20 _ _ _ _ _ ⟨fun q0 => (K115 (W := wjO b t d) (by omega) (wjO_r i) e115).mono fun v h3 _ f => ?_, fun q0 => ⟨⟨by omega, by omega⟩, ?_⟩⟩
    · obtain ⟨rfl, rfl⟩ := f
      have hb := hor_b (wjO_r i (t := t) (d := d)) (m := n) (by omega)
      exact fin _ _ _ _ (by rw [if_pos q0]; rfl) (by omega)
    · have e3 := e115 (n - 1) (by omega)
      rw [show ((n - 1 : Nat) : Int) + 1 = (n : Int) by omega] at e3
      rw [e3]
      have r := wjO_r i (t := t) (d := d) (n - 1)
      rw [show n - 1 + 1 = n by omega] at r
      exact fin _ _ _ _ (by rw [if_neg q0]) (by omega)
  · unfold B_soon
    rw [if_neg]
    intro c
    rw [if_pos c] at q
    exact absurd q (by decide)
def A_soon (b : HP) (t m d what how : Int) : Int := if (0 ≤ t ∧ t ≤ 1) ∧ (1 ≤ m ∧ m ≤ 9) ∧ (-7 ≤ d ∧ d ≤ 7) ∧ 0 ≤ how ∧ how ≤ 1 then B_soon b t m d what how else -9223372036854775806
theorem M119 {b h : HP} {t m d what how : Int} (i : Inv b) (e : P h = P b) : Wp X 6 119 0 [vr 89, vi t, vi m, vi d, vi what, vi how] [] h (fun v h' => v = some (vl (A_soon b t m d what how)) ∧ Fr fM h h') := by
  have bad : ¬ ((0 ≤ t ∧ t ≤ 1) ∧ (1 ≤ m ∧ m ≤ 9) ∧ (-7 ≤ d ∧ d ≤ 7) ∧ 0 ≤ how ∧ how ≤ 1) → some (vl (-9223372036854775806)) = some (vl (A_soon b t m d what how)) ∧ Fr fM h h := fun q => ⟨by unfold A_soon; rw [if_neg q], Fr.rf⟩
  refine T119_89_0 _ _ _ _ _ ⟨fun q => bad (by omega), fun a1 => ⟨fun q => bad (by omega), fun a2 => ⟨fun q => bad (by omega), fun a3 => ⟨fun q => bad (by omega), fun a4 => ⟨fun q => bad (by omega), fun a5 => ⟨fun q => bad (by omega), fun a6 => ⟨fun q => bad (by omega), fun a7 => ⟨fun q => bad (by omega), fun a8 => ?_⟩⟩⟩⟩⟩⟩⟩⟩
  have eA : A_soon b t m d what how = B_soon b t m d what how := if_pos (by omega)
  rw [eA]
  refine (M118 i e (by omega) (by omega) (by omega)).mono fun v h1 _ f => ?_
  obtain ⟨rfl, F⟩ := f
  exact S119_89_34 _ _ _ _ _ _ _ ⟨rfl, F⟩
/-- what a set of rules costs -/
def cst (b : HP) (t m d : Int) : Int := b 97 8 * wuO b t 0 m.toNat + b 97 9 * (64 ^ m.toNat - wuO b t d m.toNat)
def B_cheap (b : HP) (m d what : Int) : Int := if zTx (Wt b 0) (b 104 0) ∧ zTx (Wt b 1) (b 104 1) then (if what = 2 then (if cst b 1 m d < cst b 0 m d then 1 else 0) else prt (if cst b 1 m d < cst b 0 m d then cst b 1 m d else cst b 0 m d) (64 ^ m.toNat) what) else -9223372036854775805
def A_cheap (b : HP) (m d what : Int) : Int := if (1 ≤ m ∧ m ≤ 9) ∧ (-7 ≤ d ∧ d ≤ 7) ∧ 0 ≤ what ∧ what ≤ 2 then B_cheap b m d what else -9223372036854775806
theorem wuO_le {b : HP} (i : Inv b) {t d : Int} {m : Nat} : 0 ≤ wuO b t d m ∧ wuO b t d m ≤ 64 ^ m := hor_le (sgO_ok i).1 (sgO_ok i).2 m
theorem cst_r {b : HP} (i : Inv b) {t d : Int} {m : Nat} (hm : 1 ≤ m ∧ m ≤ 9) : (0 ≤ 64 ^ m - wuO b t d m ∧ 64 ^ m - wuO b t d m ≤ 18014398509481984) ∧ (0 ≤ b 97 8 * wuO b t 0 m ∧ b 97 8 * wuO b t 0 m ≤ 1783425452438716416) ∧ (0 ≤ b 97 9 * (64 ^ m - wuO b t d m) ∧ b 97 9 * (64 ^ m - wuO b t d m) ≤ 1783425452438716416) ∧ 0 ≤ cst b t m d ∧ cst b t m d < 4611686018427387904 := by
  have p9 := p64 m (by omega)
  have u0 := wuO_le i (t := t) (d := 0) (m := m)
  have ud := wuO_le i (t := t) (d := d) (m := m)
  have s := i.1.1
  have s8 := s.2.2.2.2.2.2.2.1
  have s9 := s.2.2.2.2.2.2.2.2
  have e1 := mulB' s8.1 s8.2 u0.1 (Int.le_trans u0.2 p9.2)
  have e2 := mulB' s9.1 s9.2 (show 0 ≤ 64 ^ m - wuO b t d m by omega) (show 64 ^ m - wuO b t d m ≤ 18014398509481984 by omega)
  have ec : cst b t m d = b 97 8 * wuO b t 0 m + b 97 9 * (64 ^ m - wuO b t d m) := rfl
  omega
theorem M120 {b h : HP} {t m d : Int} (i : Inv b) (e : P h = P b) (ht : 0 ≤ t ∧ t < 2) (hm : 1 ≤ m ∧ m ≤ 9) (hd : -7 ≤ d ∧ d ≤ 7) (hz : zTx (Wt b t) (b 104 t)) : Wp X 5 120 0 [vr 89, vi t, vi m, vi d, vu, vu] [] h (fun v h' => v = some (vl (cst b t m d)) ∧ Fr fM h h' ∧ P h' = P b) := by
  obtain ⟨n, rfl⟩ : ∃ n : Nat, m = n := ⟨m.toNat, by omega⟩
  have p9 := p64 n (by omega)
  have r := cst_r i (t := t) (d := d) (m := n) (by omega)
  refine S120_89_0 _ _ _ ((K116 i e ht).mono fun v h1 _ f => ?_)
  obtain ⟨rfl, F1, e1, ms⟩ := f
  refine S120_89_5 _ _ _ _ ((M114 i e1 (by omega) (by omega) hz (ms hz)).mono fun v h2 _ f => ?_)
  obtain ⟨rfl, F2, e2, ms2, e115⟩ := f
  refine S120_89_12 _ _ _ ((K115 (W := wjO b t 0) (by omega) (wjO_r i) e115).mono fun v h3 _ f => ?_)
  obtain ⟨rfl, rfl⟩ := f
  refine S120_89_17 _ _ _ _ ((M114 i e2 (by omega) hd hz ms2).mono fun v h4 _ f => ?_)
  obtain ⟨rfl, F4, e4, -, f115⟩ := f
  have e8 : h4 97 8 = b 97 8 := congrFun (congrFun e4 97) 8
  have e9 : h4 97 9 = b 97 9 := congrFun (congrFun e4 97) 9
  refine S120_89_25 _ _ _ _ ?_
  rw [e8, e9, sh64 n (by omega)]
  refine ⟨?_, by unfold R32; omega, (K115 (W := wjO b t d) (by omega) (wjO_r i) f115).mono fun v h5 _ f => ?_⟩
  · show R64 (b 97 8 * wuO b t 0 n)
    unfold R64; omega
  · obtain ⟨rfl, rfl⟩ := f
    refine S120_89_53 _ _ _ _ _ _ _ _ _ ?_
    show (R64 (64 ^ n - wuO b t d n)) ∧ (R64 (b 97 9 * (64 ^ n - wuO b t d n))) ∧ (R64 (b 97 8 * wuO b t 0 n + b 97 9 * (64 ^ n - wuO b t d n))) ∧ some (vl (b 97 8 * wuO b t 0 n + b 97 9 * (64 ^ n - wuO b t d n))) = some (vl (cst b t n d)) ∧ Fr fM h h5 ∧ P h5 = P b
    exact ⟨by unfold R64; omega, by unfold R64; omega, by unfold R64; omega, rfl, (F1.tr F2).tr F4, e4⟩
theorem M121 {b h : HP} {m d what : Int} (i : Inv b) (e : P h = P b) : Wp X 6 121 0 [vr 89, vi m, vi d, vi what, vu, vu, vu, vu, vu] [] h (fun v h' => v = some (vl (A_cheap b m d what)) ∧ Fr fM h h') := by
  have bad : ¬ ((1 ≤ m ∧ m ≤ 9) ∧ (-7 ≤ d ∧ d ≤ 7) ∧ 0 ≤ what ∧ what ≤ 2) → some (vl (-9223372036854775806)) = some (vl (A_cheap b m d what)) ∧ Fr fM h h := fun q => ⟨by unfold A_cheap; rw [if_neg q], Fr.rf⟩
  refine T121_89_0 _ _ _ ⟨fun q => bad (by omega), fun a1 => ⟨fun q => bad (by omega), fun a2 => ⟨fun q => bad (by omega), fun a3 => ⟨fun q => bad (by omega), fun a4 => ⟨fun q => bad (by omega), fun a5 => ⟨fun q => bad (by omega), fun a6 => ?_⟩⟩⟩⟩⟩⟩
  have eA : A_cheap b m d what = B_cheap b m d what := if_pos (by omega)
  rw [eA]
  have no : ¬ (zTx (Wt b 0) (b 104 0) ∧ zTx (Wt b 1) (b 104 1)) → B_cheap b m d what = -9223372036854775805 := fun q => if_neg q
  refine (K116 (t := 0) i e (by omega)).mono fun v h1 _ f => ?_
  obtain ⟨rfl, F1, e1, -⟩ := f
  refine S121_89_31 _ _ _ _ ⟨fun q => ⟨?_, F1⟩, fun q => ?_⟩
  · rw [no (fun c => by rw [if_pos c.1] at q; exact absurd q (by decide))]
  have z0 : zTx (Wt b 0) (b 104 0) := by
    by_cases c : zTx (Wt b 0) (b 104 0)
    · exact c
    · rw [if_neg c] at q; exact absurd rfl q
  refine (K116 (t := 1) i e1 (by omega)).mono fun v h2 _ f => ?_
  obtain ⟨rfl, F2, e2, -⟩ := f
  refine S121_89_39 _ _ _ _ ⟨fun q => ?_, fun q => ⟨?_, F1.tr F2⟩⟩
  · have z1 : zTx (Wt b 1) (b 104 1) := by
      by_cases c : zTx (Wt b 1) (b 104 1)
      · exact c
      · rw [if_neg c] at q; exact absurd rfl q
    obtain ⟨n, rfl⟩ : ∃ n : Nat, m = n := ⟨m.toNat, by omega⟩
    have eB : B_cheap b n d what = if what = 2 then (if cst b 1 n d < cst b 0 n d then 1 else 0) else prt (if cst b 1 n d < cst b 0 n d then cst b 1 n d else cst b 0 n d) (64 ^ n) what := if_pos ⟨z0, z1⟩
    have p9 := p64 n (by omega)
    have r0 := cst_r i (t := 0) (d := d) (m := n) (by omega)
    have r1 := cst_r i (t := 1) (d := d) (m := n) (by omega)
    rw [eB]
    refine (M120 (t := 0) i e2 (by omega) (by omega) (by omega) z0).mono fun v h3 _ f => ?_
    obtain ⟨rfl, F3, e3⟩ := f
    refine S121_89_55 _ _ _ _ ((M120 (t := 1) i e3 (by omega) (by omega) (by omega) z1).mono fun v h4 _ f => ?_)
    obtain ⟨rfl, F4, -⟩ := f
    have FF := ((F1.tr F2).tr F3).tr F4
    refine T121_89_64 _ _ _ _ _ _ ⟨fun c => ⟨fun c2 => ⟨by unfold R32; omega, ?_⟩, fun c2 => ?_⟩, fun c => ⟨fun c2 => ⟨by unfold R32; omega, ?_⟩, fun c2 => ?_⟩⟩
    · rw [sh64 n (by omega)]
      refine (K61 ⟨r0.2.2.2.1, r0.2.2.2.2⟩ ⟨by omega, by omega⟩).mono fun v h5 _ f => ?_
      obtain ⟨rfl, rfl⟩ := f
      exact S121_89_112 _ _ _ _ _ _ _ _ ⟨by rw [if_neg c2, if_neg (by omega)], FF⟩
    · exact S121_89_112 _ _ _ _ _ _ _ _ ⟨by rw [if_pos c2, if_neg (by omega)], FF⟩
    · rw [sh64 n (by omega)]
      refine (K61 ⟨r1.2.2.2.1, r1.2.2.2.2⟩ ⟨by omega, by omega⟩).mono fun v h5 _ f => ?_
      obtain ⟨rfl, rfl⟩ := f
      exact S121_89_112 _ _ _ _ _ _ _ _ ⟨by rw [if_neg c2, if_pos (by omega)], FF⟩
    · exact S121_89_112 _ _ _ _ _ _ _ _ ⟨by rw [if_pos c2, if_pos (by omega)], FF⟩
  · rw [no (fun c => by rw [if_pos c.2] at q; exact absurd q (by decide))]
end
