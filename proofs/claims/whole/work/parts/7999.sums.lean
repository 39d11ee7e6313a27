-- ===== running sums; sum, smoothed, over agree =====
def mx0 (x : Int) : Int := if x < 0 then 0 else x
def upv (s : Nat → Int) (M S sl : Int) : Nat → Int
  | 0 => 0
  | k + 1 => mx0 (upv s M S sl k + (s k * M - S) - sl)
def dnv (s : Nat → Int) (M S sl : Int) : Nat → Int
  | 0 => 0
  | k + 1 => mx0 (dnv s M S sl k - (s k * M - S) - sl)
theorem ud_r {s : Nat → Int} {M S sl : Int} (hs : ∀ k, 0 ≤ s k ∧ s k ≤ 59940) (hM : 0 ≤ M ∧ M ≤ 20) (hS : 0 ≤ S ∧ S ≤ 1198800) (hl : 0 ≤ sl) : ∀ k : Nat, 0 ≤ upv s M S sl k ∧ upv s M S sl k ≤ 1198800 * k ∧ 0 ≤ dnv s M S sl k ∧ dnv s M S sl k ≤ 1198800 * k
  | 0 => by show (0 : Int) ≤ 0 ∧ (0 : Int) ≤ 1198800 * ((0 : Nat) : Int) ∧ (0 : Int) ≤ 0 ∧ (0 : Int) ≤ 1198800 * ((0 : Nat) : Int); omega
  | k + 1 => by
    have ih := ud_r hs hM hS hl k
    have m := mulB (hs k).1 (hs k).2 hM.1 hM.2
    unfold upv dnv mx0
    generalize s k * M = x at *
    repeat' split
    all_goals omega
theorem msq_r {V : Int → Int} (hV : Vok V) {l : List Int} (k : Nat) : 0 ≤ msq (mnV V) l k ∧ msq (mnV V) l k ≤ 59940 := mnV_r hV _
theorem Inv.rowm {h : HP} (i : Inv h) {g : Int} : g ∈ rwl (VL h) (gn h) ↔ 0 ≤ g ∧ g < h 89 5 ∧ cnp (VL h) g 5 ≠ 0 := by
  have t := i.tok.1
  rw [rwl_mem, show ((gn h : Nat) : Int) = h 89 5 by unfold gn; omega]
section
variable {X : Nat × (Int → Int)}
theorem K231 {h : HP} {l : List Int} {m s : Int → Int} {M S sk : Int} (r : RowIs 37 h l m s) (e0 : h 36 0 = M) (e1 : h 36 1 = S) (hM : 0 ≤ M ∧ M ≤ 20) (hS : 0 ≤ S ∧ S ≤ 1198800) (hm : ∀ g, 0 ≤ m g ∧ m g ≤ 59940) (hk : 0 ≤ sk ∧ sk ≤ 99) : Wp X 2 231 0 [vr 74, vr 37, vr 36, vi sk, vu, vu, vu, vu, vu] [] h (fun v h' => v = none ∧ Fr (fun a j => (a = 74 ∧ j = 2) ∨ a = 75 ∨ a = 76) h h' ∧ h' 74 2 = l.length ∧ ∀ k : Nat, k < l.length → h' 75 k = upv (msq m l) M S (sk * (60 * M)) (k + 1) ∧ h' 76 k = dnv (msq m l) M S (sk * (60 * M)) (k + 1)) := by
  have msl := mulB hk.1 hk.2 (show 0 ≤ 60 * M by omega) (show 60 * M ≤ 1200 by omega)
  have hl := r.2.1
  have hmq : ∀ k, 0 ≤ msq m l k ∧ msq m l k ≤ 59940 := fun k => hm _
  have L : ∀ (k n : Nat) (h1 : HP) (z3 z8 : aV), n + k = l.length → Fr (fun a j => (a = 74 ∧ j = 2) ∨ a = 75 ∨ a = 76) h h1 → h1 74 2 = l.length → (∀ q : Nat, q < n → h1 75 q = upv (msq m l) M S (sk * (60 * M)) (q + 1) ∧ h1 76 q = dnv (msq m l) M S (sk * (60 * M)) (q + 1)) → Wp X 2 231 30 [vr 74, vr 37, vr 36, z3, vi (sk * (60 * M)), vi (upv (msq m l) M S (sk * (60 * M)) n), vi (dnv (msq m l) M S (sk * (60 * M)) n), vi n, z8] [] h1 (fun v h' => v = none ∧ Fr (fun a j => (a = 74 ∧ j = 2) ∨ a = 75 ∨ a = 76) h h' ∧ h' 74 2 = l.length ∧ ∀ k : Nat, k < l.length → h' 75 k = upv (msq m l) M S (sk * (60 * M)) (k + 1) ∧ h' 76 k = dnv (msq m l) M S (sk * (60 * M)) (k + 1)) := by
    intro k
    induction k with
    | zero =>
      intro n h1 z3 z8 hn F e2 q
      exact S231_74_37_36_30 _ _ _ _ _ _ ⟨fun _ => ⟨rfl, F, e2, fun k hk => q k (by omega)⟩, fun c => absurd c (by omega)⟩
    | succ k ih =>
      intro n h1 z3 z8 hn F e2 q
      have f0 : h1 36 0 = M := (F _ _ (by omega)).trans e0
      have f1 : h1 36 1 = S := (F _ _ (by omega)).trans e1
      have f6 : h1 37 6 = l.length := (F _ _ (by omega)).trans r.1
      have f39 : h1 39 (n : Int) = msq m l n := (F _ _ (by omega)).trans (r.2.2 n (by omega)).2.1
      have ur := ud_r hmq hM hS (show 0 ≤ sk * (60 * M) by omega) n
      have mm := mulB (hmq n).1 (hmq n).2 hM.1 hM.2
      have go : ∀ u d z8, u = upv (msq m l) M S (sk * (60 * M)) (n + 1) → d = dnv (msq m l) M S (sk * (60 * M)) (n + 1) → Wp X 2 231 30 [vr 74, vr 37, vr 36, z3, vi (sk * (60 * M)), vi u, vi d, vi ((n : Int) + 1), z8] [] (upd2 (upd2 h1 75 n u) 76 n d) (fun v h' => v = none ∧ Fr (fun a j => (a = 74 ∧ j = 2) ∨ a = 75 ∨ a = 76) h h' ∧ h' 74 2 = l.length ∧ ∀ k : Nat, k < l.length → h' 75 k = upv (msq m l) M S (sk * (60 * M)) (k + 1) ∧ h' 76 k = dnv (msq m l) M S (sk * (60 * M)) (k + 1)) := by
        intro u d z8 eu ed
        have g := ih (n + 1) (upd2 (upd2 h1 75 n u) 76 n d) z3 z8 (by omega) ((F.up (.inr (.inl rfl))).up (.inr (.inr rfl))) (by rw [upd2_ne (by decide), upd2_ne (by decide)]; exact e2) (fun p hp => by
          rw [upd2_ne (a := 76) (b := 75) (by decide), upd2_at, upd2_at, upd2_ne (a := 75) (b := 76) (by decide)]
          by_cases w : p = n
          · rw [if_pos (by omega), if_pos (by omega), w]; exact ⟨eu, ed⟩
          · rw [if_neg (by omega), if_neg (by omega)]; exact q p (by omega))
        rw [← eu, ← ed] at g
        exact g
      have eu : upv (msq m l) M S (sk * (60 * M)) (n + 1) = mx0 (upv (msq m l) M S (sk * (60 * M)) n + (msq m l n * M - S) - sk * (60 * M)) := rfl
      have ed : dnv (msq m l) M S (sk * (60 * M)) (n + 1) = mx0 (dnv (msq m l) M S (sk * (60 * M)) n - (msq m l n * M - S) - sk * (60 * M)) := rfl
      unfold mx0 at eu ed
      clear ih
      refine S231_74_37_36_30 _ _ _ _ _ _ ⟨fun c => absurd c (by omega), fun _ => ⟨fun c => absurd c (by omega), fun _ => ⟨fun c => absurd c (by omega), fun _ => ⟨⟨by omega, by omega⟩, ?_⟩⟩⟩⟩
      rw [f39, f0, f1]
      generalize upv (msq m l) M S (sk * (60 * M)) n = u0 at *
      generalize dnv (msq m l) M S (sk * (60 * M)) n = d0 at *
      generalize msq m l n * M = x at *
      generalize sk * (60 * M) = sl at *
      have U1 : ¬ (u0 + (x - S) - sl < 0) → u0 + (x - S) - sl = upv (msq m l) M S sl (n + 1) := fun c => by rw [eu, if_neg c]
      have U0 : u0 + (x - S) - sl ≤ 0 → 0 = upv (msq m l) M S sl (n + 1) := fun c => by rw [eu]; split <;> omega
      have D1 : ¬ (d0 - (x - S) - sl < 0) → d0 - (x - S) - sl = dnv (msq m l) M S sl (n + 1) := fun c => by rw [ed, if_neg c]
      have D0 : d0 - (x - S) - sl ≤ 0 → 0 = dnv (msq m l) M S sl (n + 1) := fun c => by rw [ed]; split <;> omega
      exact ⟨by unfold R32; omega, by unfold R32; omega, by unfold R32; omega, by unfold R32; omega, fun a => ⟨by unfold R32; omega, by unfold R32; omega, fun b => go _ _ _ (U1 (by omega)) (D1 (by omega)), fun b => go _ _ _ (U1 (by omega)) (D0 b)⟩, fun a => ⟨by unfold R32; omega, by unfold R32; omega, fun b => go _ _ _ (U0 a) (D1 (by omega)), fun b => go _ _ _ (U0 a) (D0 b)⟩⟩
  refine S231_74_37_36_0 _ ?_
  rw [e0, r.1]
  have F1 : ∀ v, Fr (fun a j => (a = 74 ∧ j = 2) ∨ a = 75 ∨ a = 76) h (upd2 h 74 2 v) := fun v => Fr.rf.up (.inl ⟨rfl, rfl⟩)
  exact ⟨by unfold R32; omega, by unfold R32; omega, fun c => absurd c (by omega), fun _ => L l.length 0 _ _ _ (by omega) (F1 _) upd2_s (fun q hq => absurd hq (Nat.not_lt_zero q))⟩
theorem K122 {b h : HP} (T : Tok b) (v : VV b h) (hG : gn b ≤ 20) {M S sk : Int} (e19 : h 89 19 = M) (e17 : h 89 17 = S) (e4 : h 97 4 = sk) (hM : 0 ≤ M ∧ M ≤ 20) (hS : 0 ≤ S ∧ S ≤ 1198800) (hk : 0 ≤ sk ∧ sk ≤ 99) : Wp X 0 122 0 [vr 89, vu, vu, vu, vu, vu, vu, vu, vu, vu] [] h (fun r h' => r = none ∧ Fr (fun a j => a = 116 ∨ a = 117) h h' ∧ ∀ k : Nat, k < (rwl (VL b) (gn b)).length → h' 116 k = upv (msq (mnV (VL b)) (rwl (VL b) (gn b))) M S (sk * (60 * M)) (k + 1) ∧ h' 117 k = dnv (msq (mnV (VL b)) (rwl (VL b) (gn b))) M S (sk * (60 * M)) (k + 1)) := by
  have msl := mulB hk.1 hk.2 (show 0 ≤ 60 * M by omega) (show 60 * M ≤ 1200 by omega)
  have hl := rwl_len (V := VL b) (gn b)
  have hV := VL_ok T
  have t := T.1
  have gl : ((gn b : Nat) : Int) = b 89 5 := by unfold gn; omega
  generalize hrw : rwl (VL b) (gn b) = l at *
  have hmq : ∀ k, 0 ≤ msq (mnV (VL b)) l k ∧ msq (mnV (VL b)) l k ≤ 59940 := msq_r hV
  have L : ∀ (k n : Nat) (h1 : HP) (z8 : aV), n + k = l.length → Fr (fun a j => a = 116 ∨ a = 117) h h1 → (∀ q : Nat, q < n → h1 116 q = upv (msq (mnV (VL b)) l) M S (sk * (60 * M)) (q + 1) ∧ h1 117 q = dnv (msq (mnV (VL b)) l) M S (sk * (60 * M)) (q + 1)) → Wp X 0 122 26 [vr 89, vl (upv (msq (mnV (VL b)) l) M S (sk * (60 * M)) n), vu, vl (dnv (msq (mnV (VL b)) l) M S (sk * (60 * M)) n), vu, vl (sk * (60 * M)), vu, vi n, z8, vu] [] h1 (fun r h' => r = none ∧ Fr (fun a j => a = 116 ∨ a = 117) h h' ∧ ∀ k : Nat, k < l.length → h' 116 k = upv (msq (mnV (VL b)) l) M S (sk * (60 * M)) (k + 1) ∧ h' 117 k = dnv (msq (mnV (VL b)) l) M S (sk * (60 * M)) (k + 1)) := by
    intro k
    induction k with
    | zero =>
      intro n h1 z8 hn F q
      have f16 : h1 89 16 = l.length := (F _ _ (by omega)).trans (by rw [v.2.2.2, hrw])
      exact S122_89_26 _ _ _ _ _ ⟨fun _ => ⟨rfl, F, fun k hk => q k (by omega)⟩, fun c => absurd c (by omega)⟩
    | succ k ih =>
      intro n h1 z8 hn F q
      have f16 : h1 89 16 = l.length := (F _ _ (by omega)).trans (by rw [v.2.2.2, hrw])
      have f0 : h1 89 19 = M := (F _ _ (by omega)).trans e19
      have f1 : h1 89 17 = S := (F _ _ (by omega)).trans e17
      have ar := v.2.2.1
      rw [hrw] at ar
      have f102 : h1 102 (n : Int) = l.getD n 0 := (F _ _ (by omega)).trans (ar n (by omega))
      have gm : l.getD n 0 ∈ rwl (VL b) (gn b) := by rw [hrw]; exact getD_mem (by omega)
      have gr := rwl_mem.mp gm
      have f99 : h1 99 (l.getD n 0) = msq (mnV (VL b)) l n := (F _ _ (by omega)).trans (v.2.1 _ gr.1 (by omega)).1
      have ur := ud_r hmq hM hS (show 0 ≤ sk * (60 * M) by omega) n
      have mm := mulB (hmq n).1 (hmq n).2 hM.1 hM.2
      have go : ∀ u d z8, u = upv (msq (mnV (VL b)) l) M S (sk * (60 * M)) (n + 1) → d = dnv (msq (mnV (VL b)) l) M S (sk * (60 * M)) (n + 1) → Wp X 0 122 26 [vr 89, vl u, vu, vl d, vu, vl (sk * (60 * M)), vu, vi ((n : Int) + 1), z8, vu] [] (upd2 (upd2 h1 116 n u) 117 n d) (fun r h' => r = none ∧ Fr (fun a j => a = 116 ∨ a = 117) h h' ∧ ∀ k : Nat, k < l.length → h' 116 k = upv (msq (mnV (VL b)) l) M S (sk * (60 * M)) (k + 1) ∧ h' 117 k = dnv (msq (mnV (VL b)) l) M S (sk * (60 * M)) (k + 1)) := by
        intro u d z8 eu ed
        have g := ih (n + 1) (upd2 (upd2 h1 116 n u) 117 n d) z8 (by omega) ((F.up (.inl rfl)).up (.inr rfl)) (fun p hp => by
          rw [upd2_ne (a := 117) (b := 116) (by decide), upd2_at, upd2_at, upd2_ne (a := 116) (b := 117) (by decide)]
          by_cases w : p = n
          · rw [if_pos (by omega), if_pos (by omega), w]; exact ⟨eu, ed⟩
          · rw [if_neg (by omega), if_neg (by omega)]; exact q p (by omega))
        rw [← eu, ← ed] at g
        exact g
      have eu : upv (msq (mnV (VL b)) l) M S (sk * (60 * M)) (n + 1) = mx0 (upv (msq (mnV (VL b)) l) M S (sk * (60 * M)) n + (msq (mnV (VL b)) l n * M - S) - sk * (60 * M)) := rfl
      have ed : dnv (msq (mnV (VL b)) l) M S (sk * (60 * M)) (n + 1) = mx0 (dnv (msq (mnV (VL b)) l) M S (sk * (60 * M)) n - (msq (mnV (VL b)) l n * M - S) - sk * (60 * M)) := rfl
      unfold mx0 at eu ed
      clear ih
      refine T122_89_26 _ _ _ _ _ ⟨fun c => absurd c (by omega), fun _ => ⟨⟨by omega, by omega⟩, ?_⟩⟩
      rw [f102, f99, f0, f1]
      generalize upv (msq (mnV (VL b)) l) M S (sk * (60 * M)) n = u0 at *
      generalize dnv (msq (mnV (VL b)) l) M S (sk * (60 * M)) n = d0 at *
      generalize msq (mnV (VL b)) l n * M = x at *
      generalize sk * (60 * M) = sl at *
      have U1 : 0 ≤ u0 + (x - S) - sl → u0 + (x - S) - sl = upv (msq (mnV (VL b)) l) M S sl (n + 1) := fun c => by rw [eu, if_neg (by omega)]
      have U0 : u0 + (x - S) - sl < 0 → 0 = upv (msq (mnV (VL b)) l) M S sl (n + 1) := fun c => by rw [eu, if_pos c]
      have D1 : 0 ≤ d0 - (x - S) - sl → d0 - (x - S) - sl = dnv (msq (mnV (VL b)) l) M S sl (n + 1) := fun c => by rw [ed, if_neg (by omega)]
      have D0 : d0 - (x - S) - sl < 0 → 0 = dnv (msq (mnV (VL b)) l) M S sl (n + 1) := fun c => by rw [ed, if_pos c]
      exact ⟨⟨gr.1, by omega⟩, by unfold R64; omega, by unfold R64; omega, by unfold R64; omega, by unfold R64; omega, fun a => ⟨by unfold R64; omega, by unfold R64; omega, fun b => go _ _ _ (U1 a) (D1 b), fun b => go _ _ _ (U1 a) (D0 b)⟩, fun a => ⟨by unfold R64; omega, by unfold R64; omega, fun b => go _ _ _ (U0 a) (D1 b), fun b => go _ _ _ (U0 a) (D0 b)⟩⟩
  refine S122_89_0 ?_
  rw [e19, e4, Int.mul_comm (60 * M) sk]
  exact ⟨by unfold R64; omega, by unfold R64; omega, L l.length 0 h _ (by omega) Fr.rf (fun q hq => absurd hq (Nat.not_lt_zero q))⟩
/-- at which place a group stands -/
theorem K195 {h : HP} {l : List Int} {m s : Int → Int} {g : Int} (r : RowIs 37 h l m s) (hg : g ∈ l) : Wp X 0 195 0 [vr 37, vi g, vu] [] h (fun v h' => v = some (vi (plc l g : Int)) ∧ h' = h) := by
  have hl := r.2.1
  obtain ⟨i, a1, a2, a3⟩ := mem_ex hg
  have L : ∀ (k n : Nat), n + k = i → Wp X 0 195 2 [vr 37, vi g, vi n] [] h (fun v h' => v = some (vi (plc l g : Int)) ∧ h' = h) := by
    intro k
    induction k with
    | zero =>
      intro n hn
      have hn : n = i := by omega
      subst hn
      refine S195_37_2 _ _ ⟨fun c => absurd c (by rw [r.1]; omega), fun _ => ⟨⟨by omega, by omega⟩, ?_⟩⟩
      rw [show h 38 (n : Int) = l.getD n 0 from (r.2.2 n a1).1]
      exact ⟨fun c => absurd a2 c, fun _ => ⟨by rw [plc_at a1 a2 a3], rfl⟩⟩
    | succ k ih =>
      intro n hn
      refine S195_37_2 _ _ ⟨fun c => absurd c (by rw [r.1]; omega), fun _ => ⟨⟨by omega, by omega⟩, ?_⟩⟩
      rw [show h 38 (n : Int) = l.getD n 0 from (r.2.2 n (by omega)).1]
      exact ⟨fun _ => ih (n + 1) (by omega), fun c => absurd c (a3 n (by omega))⟩
  exact S195_37_0 _ (L i 0 (by omega))
theorem K99 {h : HP} {l : List Int} {g : Int} (ar : Ar (h 102) l) (hl : l.length ≤ 20) (hg : g ∈ l) : Wp X 0 99 0 [vr 89, vi g, vu] [] h (fun v h' => v = some (vi (plc l g : Int)) ∧ h' = h) := by
  obtain ⟨i, a1, a2, a3⟩ := mem_ex hg
  have L : ∀ (k n : Nat), n + k = i → Wp X 0 99 2 [vr 89, vi g, vi n] [] h (fun v h' => v = some (vi (plc l g : Int)) ∧ h' = h) := by
    intro k
    induction k with
    | zero =>
      intro n hn
      have hn : n = i := by omega
      subst hn
      refine S99_89_2 _ _ ⟨⟨by omega, by omega⟩, ?_⟩
      rw [ar n a1]
      exact ⟨fun _ => ⟨by rw [plc_at a1 a2 a3], rfl⟩, fun c => absurd a2 c⟩
    | succ k ih =>
      intro n hn
      refine S99_89_2 _ _ ⟨⟨by omega, by omega⟩, ?_⟩
      rw [ar n (by omega)]
      exact ⟨fun c => absurd c (a3 n (by omega)), fun _ => ih (n + 1) (by omega)⟩
  exact S99_89_0 _ (L i 0 (by omega))
-- sum
def U_up (h : HP) (k : Nat) : Int := upv (msq (mnV (VL h)) (rwl (VL h) (gn h))) (qM (mq5 h) (ob (mq5 h))) (qS (mq5 h) (ob (mq5 h))) (h 97 4 * (60 * qM (mq5 h) (ob (mq5 h)))) (k + 1)
def U_dn (h : HP) (k : Nat) : Int := dnv (msq (mnV (VL h)) (rwl (VL h) (gn h))) (qM (mq5 h) (ob (mq5 h))) (qS (mq5 h) (ob (mq5 h))) (h 97 4 * (60 * qM (mq5 h) (ob (mq5 h)))) (k + 1)
def A_sum (h : HP) (g side what : Int) : Int := if 0 ≤ g ∧ g < h 89 5 ∧ (side = 1 ∨ side = -1) ∧ 0 ≤ what ∧ what ≤ 1 then (if 0 < qM (mq5 h) (ob (mq5 h)) ∧ cnp (VL h) g 5 ≠ 0 then prt (if side = 1 then U_up h (plc (rwl (VL h) (gn h)) g) else U_dn h (plc (rwl (VL h) (gn h)) g)) (60 * qM (mq5 h) (ob (mq5 h))) what else -9223372036854775805) else -9223372036854775806
def fSm (a : Nat) (j : Int) : Prop := (a = 74 ∧ j = 2) ∨ a = 75 ∨ a = 76
theorem U_r {h : HP} (i : Inv h) {k : Nat} (hk : k < 20) : 0 ≤ U_up h k ∧ U_up h k ≤ 23976000 ∧ 0 ≤ U_dn h k ∧ U_dn h k ≤ 23976000 := by
  have hL := i.lok
  have bm : 0 ≤ qM (mq5 h) (ob (mq5 h)) ∧ qM (mq5 h) (ob (mq5 h)) ≤ 20 := bM_r
  have bs : 0 ≤ qS (mq5 h) (ob (mq5 h)) ∧ qS (mq5 h) (ob (mq5 h)) ≤ 1198800 := bS_r hL.1
  have sk := i.1.1.2.2.2.1
  have msl := mulB sk.1 sk.2 (show 0 ≤ 60 * qM (mq5 h) (ob (mq5 h)) by omega) (show 60 * qM (mq5 h) (ob (mq5 h)) ≤ 1200 by omega)
  have := ud_r (s := msq (mnV (VL h)) (rwl (VL h) (gn h))) (msq_r (VL_ok i.tok)) bm bs msl.1 (k + 1)
  unfold U_up U_dn
  omega
theorem Crun {h : HP} (i : Inv h) : Wp X 2 231 0 [vr 74, vr 37, vr 36, vi (h 7 4), vu, vu, vu, vu, vu] [] h (fun v h' => v = none ∧ Fr fSm h h' ∧ P h' = P h ∧ h' 74 2 = (rwl (VL h) (gn h)).length ∧ ∀ k : Nat, k < (rwl (VL h) (gn h)).length → h' 75 k = U_up h k ∧ h' 76 k = U_dn h k) := by
  have hL := i.lok
  have L := i.ll
  have sk := i.1.1.2.2.2.1
  rw [i.1.1.1 4 (by omega) (by omega)]
  refine (K231 (M := qM (mq5 h) (ob (mq5 h))) (S := qS (mq5 h) (ob (mq5 h))) i.row L.1 L.2.1 bM_r (bS_r hL.1) (fun g => mnV_r hL.1 g) sk).mono fun v h1 _ f => ⟨f.1, f.2.1, f.2.1.toP (fun a j c => by unfold scr; omega), f.2.2.1, f.2.2.2⟩
theorem a19 (y1 y2 y3 : Int) : Ag X Inv 3 19 4 123 vl [vr 6, vi y1, vi y2, vi y3] [vr 89, vi y1, vi y2, vi y3, vu] := by
  refine ag_q (fun h => A_sum h y1 y2 y3) (fun h i => ?_) (fun h h1 i e => ?_)
  · have L := i.ll
    have hL := i.lok
    have cv := i.cv
    have g8 := i.g8
    have t := i.tok.1
    have r := i.row
    have bm : 0 ≤ qM (mq5 h) (ob (mq5 h)) ∧ qM (mq5 h) (ob (mq5 h)) ≤ 20 := bM_r
    have gl : ((gn h : Nat) : Int) = h 89 5 := by unfold gn; omega
    have R : ∀ {rr : Int}, rr = A_sum h y1 y2 y3 → (some (vl rr) = some (vl (A_sum h y1 y2 y3)) ∧ P h = P h ∧ NT h) := fun q => ⟨by rw [q], rfl, i.2⟩
    have hA : A_sum h y1 y2 y3 = if 0 ≤ y1 ∧ y1 < h 89 5 ∧ (y2 = 1 ∨ y2 = -1) ∧ 0 ≤ y3 ∧ y3 ≤ 1 then (if 0 < qM (mq5 h) (ob (mq5 h)) ∧ cnp (VL h) y1 5 ≠ 0 then prt (if y2 = 1 then U_up h (plc (rwl (VL h) (gn h)) y1) else U_dn h (plc (rwl (VL h) (gn h)) y1)) (60 * qM (mq5 h) (ob (mq5 h))) y3 else -9223372036854775805) else -9223372036854775806 := rfl
    have good : 0 ≤ y1 → y1 < h 89 5 → (y2 = 1 ∨ y2 = -1) → 0 ≤ y3 → y3 ≤ 1 → (((h 34 y1) ≠ (-1) → (((h 36 0) ≤ 0 → (some (vl (-9223372036854775805)) = some (vl (A_sum h y1 y2 y3)) ∧ P h = P h ∧ NT h)) ∧ (0 < (h 36 0) → Wp X 2 231 0 [vr 74, vr 37, vr 36, vi (h 7 4), vu, vu, vu, vu, vu] [] h (fun v h' => Wp X 3 19 84 [vr 6, vi y1, vi y2, vi y3] (psh v []) h' (fun r h1 => r = some (vl (A_sum h y1 y2 y3)) ∧ P h1 = P h ∧ NT h1))))) ∧ ((h 34 y1) = (-1) → (some (vl (-9223372036854775805)) = some (vl (A_sum h y1 y2 y3)) ∧ P h = P h ∧ NT h))) := by
      intro b1 b2 b3 b4 b5
      have c := (cv.1 y1 b1 b2).2.1
      have mr := mnV_r hL.1 y1
      have mr : 0 ≤ mnV (VL h) y1 ∧ mnV (VL h) y1 ≤ 59940 := mr
      rw [if_pos ⟨b1, b2, b3, b4, b5⟩] at hA
      rw [c, L.1]
      by_cases hc : cnp (VL h) y1 5 = 0
      · rw [if_pos hc]
        exact ⟨fun q => absurd rfl q, fun _ => R (by rw [hA, if_neg (fun q => q.2 hc)])⟩
      · rw [if_neg hc]
        refine ⟨fun _ => ⟨fun q => R (by rw [hA, if_neg (fun q2 => by omega)]), fun q => (Crun i).mono fun v h1 _ f => ?_⟩, fun q => absurd q (by omega)⟩
        obtain ⟨rfl, F, e, f2, fu⟩ := f
        rw [if_pos ⟨q, hc⟩] at hA
        have hg : y1 ∈ rwl (VL h) (gn h) := i.rowm.mpr ⟨b1, b2, hc⟩
        have pl := plc_lt hg
        have hl := r.2.1
        have r1 := r.fr F (by unfold fSm; omega) (fun a j a1 a2 => by unfold fSm; omega)
        have nt : NT h1 := i.2.fr2 F (fun a j c => by unfold fSm at c; omega)
        have f36 : h1 36 0 = qM (mq5 h) (ob (mq5 h)) := (F _ _ (by unfold fSm; omega)).trans L.1
        have ur := U_r i (k := plc (rwl (VL h) (gn h)) y1) (by omega)
        have fu := fu _ pl.1
        refine S19_6_84 _ _ _ ((K195 r1 hg).mono fun v h2 _ f => ?_)
        obtain ⟨rfl, rfl⟩ := f
        refine S19_6_97 _ _ _ _ _ ⟨fun c => absurd c (by omega), fun _ => ⟨fun _ => ⟨fun c => ⟨⟨by omega, by omega⟩, ?_⟩, fun c => ⟨⟨by omega, by omega⟩, ?_⟩⟩, fun c => absurd c (by omega)⟩⟩
        · rw [f36, fu.2]
          refine ⟨by unfold R32; omega, (K45 (by omega) (by omega)).mono fun v h3 _ f => ?_⟩
          obtain ⟨rfl, rfl⟩ := f
          refine S19_6_113 _ _ _ _ _ ⟨?_, e, nt⟩
          rw [hA, if_neg (by omega)]
        · rw [f36, fu.1]
          refine ⟨by unfold R32; omega, (K45 (by omega) (by omega)).mono fun v h3 _ f => ?_⟩
          obtain ⟨rfl, rfl⟩ := f
          refine S19_6_113 _ _ _ _ _ ⟨?_, e, nt⟩
          rw [hA, if_pos (by omega)]
    refine S19_6_0 _ _ _ ⟨fun q => R ?_, fun q1 => ⟨fun q => R ?_, fun q2 => ⟨fun q3 => ⟨fun q => R ?_, fun q4 => ⟨fun q5 => ⟨⟨by omega, by omega⟩, good q1 (by omega) (.inl q3) q4 q5⟩, fun q => R ?_⟩⟩, fun q3 => ⟨fun q => R ?_, fun q3' => ⟨fun q => R ?_, fun q4 => ⟨fun q5 => ⟨⟨by omega, by omega⟩, good q1 (by omega) (.inr q3') q4 q5⟩, fun q => R ?_⟩⟩⟩⟩⟩⟩
    all_goals rw [hA, if_neg (by omega)]
  · have hL := i.lok
    have t := i.tok.1
    have gl : ((gn h : Nat) : Int) = h 89 5 := by unfold gn; omega
    have bm : 0 ≤ qM (mq5 h) (ob (mq5 h)) ∧ qM (mq5 h) (ob (mq5 h)) ≤ 20 := bM_r
    have g5 : h1 89 5 = h 89 5 := congrFun (congrFun e 89) 5
    have hA : A_sum h y1 y2 y3 = if 0 ≤ y1 ∧ y1 < h 89 5 ∧ (y2 = 1 ∨ y2 = -1) ∧ 0 ≤ y3 ∧ y3 ≤ 1 then (if 0 < qM (mq5 h) (ob (mq5 h)) ∧ cnp (VL h) y1 5 ≠ 0 then prt (if y2 = 1 then U_up h (plc (rwl (VL h) (gn h)) y1) else U_dn h (plc (rwl (VL h) (gn h)) y1)) (60 * qM (mq5 h) (ob (mq5 h))) y3 else -9223372036854775805) else -9223372036854775806 := rfl
    have R : ∀ {rr : Int}, rr = A_sum h y1 y2 y3 → (some (vl rr) = some (vl (A_sum h y1 y2 y3)) ∧ Fr fM h1 h1) := fun q => ⟨by rw [q], Fr.rf⟩
    have good : 0 ≤ y1 → y1 < h 89 5 → (y2 = 1 ∨ y2 = -1) → 0 ≤ y3 → y3 ≤ 1 → Wp X 3 78 0 [vr 89, vu, vu, vu, vu] [] h1 (fun v h' => Wp X 4 123 35 [vr 89, vi y1, vi y2, vi y3, vu] (psh v []) h' (fun r h2 => r = some (vl (A_sum h y1 y2 y3)) ∧ Fr fM h1 h2)) := by
      intro b1 b2 b3 b4 b5
      rw [if_pos ⟨b1, b2, b3, b4, b5⟩] at hA
      refine (K78 i.tok i.sok e).mono fun v h2 _ f => ?_
      obtain ⟨rfl, e2, F, vv, B⟩ := f
      have F := F.mo fun _ _ c => fB_M c
      have vg := (vv.2.1 y1 b1 b2).2.2
      refine S123_89_35 _ _ _ _ ?_
      rw [vg]
      by_cases c : 0 < qM (mq5 h) (ob (mq5 h))
      · rw [if_pos c]
        refine ⟨fun q => absurd q (by decide), fun _ => ⟨⟨b1, by omega⟩, ?_⟩⟩
        by_cases hc : cnp (VL h) y1 5 = 0
        · rw [if_pos hc]
          exact ⟨fun q => absurd q (by decide), fun _ => ⟨by rw [hA, if_neg (fun q => q.2 hc)], F⟩⟩
        · rw [if_neg hc]
          rw [if_pos ⟨c, hc⟩] at hA
          have e4 : h2 97 4 = h 97 4 := congrFun (congrFun e2 97) 4
          have hg : y1 ∈ rwl (VL h) (gn h) := i.rowm.mpr ⟨b1, b2, hc⟩
          have pl := plc_lt hg
          have hl := rwl_len (V := VL h) (gn h)
          refine ⟨fun _ => (K122 i.tok vv (by omega) B.1 B.2.1 e4 bM_r (bS_r hL.1) i.1.1.2.2.2.1).mono fun v h3 _ f => ?_, fun q => absurd rfl q⟩
          obtain ⟨rfl, F3, fu⟩ := f
          have F3' : Fr fM h2 h3 := F3.mo fun a j c => by unfold fM scr; omega
          have ar : Ar (h3 102) (rwl (VL h) (gn h)) := vv.2.2.1.cg (F3.row fun j => by omega)
          have f19 : h3 89 19 = qM (mq5 h) (ob (mq5 h)) := (F3 _ _ (by omega)).trans B.1
          have ur := U_r i (k := plc (rwl (VL h) (gn h)) y1) (by omega)
          have fu := fu _ pl.1
          have fu1 : h3 116 (plc (rwl (VL h) (gn h)) y1 : Int) = U_up h (plc (rwl (VL h) (gn h)) y1) := fu.1
          have fu2 : h3 117 (plc (rwl (VL h) (gn h)) y1 : Int) = U_dn h (plc (rwl (VL h) (gn h)) y1) := fu.2
          refine S123_89_57 _ _ _ ((K99 ar (by omega) hg).mono fun v h4 _ f => ?_)
          obtain ⟨rfl, rfl⟩ := f
          refine S123_89_62 _ _ _ _ ⟨fun c => ⟨⟨by omega, by omega⟩, ?_⟩, fun c => ⟨⟨by omega, by omega⟩, ?_⟩⟩
          · rw [f19, fu2]
            refine ⟨by unfold R64; omega, (K61 (by omega) (by omega)).mono fun v h5 _ f => ?_⟩
            obtain ⟨rfl, rfl⟩ := f
            refine S123_89_99 _ _ _ _ _ _ ⟨?_, F.tr F3'⟩
            rw [hA, if_neg c]
          · rw [f19, fu1]
            refine ⟨by unfold R64; omega, (K61 (by omega) (by omega)).mono fun v h5 _ f => ?_⟩
            obtain ⟨rfl, rfl⟩ := f
            refine S123_89_99 _ _ _ _ _ _ ⟨?_, F.tr F3'⟩
            rw [hA, if_pos c]
      · rw [if_neg c]
        exact ⟨fun _ => ⟨by rw [hA, if_neg (fun q => c q.1)], F⟩, fun q => absurd rfl q⟩
    refine T123_89_0 _ _ _ ?_
    rw [g5]
    refine ⟨by unfold R32; omega, fun q => R ?_, fun q1 => ⟨fun q => R ?_, fun q2 => ⟨fun q3 => ⟨fun q => R ?_, fun q4 => ⟨fun q => R ?_, fun q5 => good q1 (by omega) (.inl q3) q4 q5⟩⟩, fun q3 => ⟨fun q => R ?_, fun q3' => ⟨fun q => R ?_, fun q4 => ⟨fun q => R ?_, fun q5 => good q1 (by omega) (.inr q3') q4 q5⟩⟩⟩⟩⟩⟩
    all_goals rw [hA, if_neg (by omega)]
end
