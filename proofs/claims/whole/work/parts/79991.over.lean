-- ===== smoothed, over agree =====
def smo (s : Nat → Int) (w : Int) : Nat → Int
  | 0 => (1000 * s 0) / 60
  | k + 1 => (480 * smo s w k + (1000 * s (k + 1) - 60 * smo s w k) * w) / 480
theorem nid (x m w : Int) : x * (8 - w) * 60 + 1000 * m * w = 480 * x + (1000 * m - 60 * x) * w := by
  rw [Int.mul_sub, Int.sub_mul, Int.sub_mul, Int.mul_assoc 1000 m w, Int.mul_assoc 60 x w]
  omega
theorem smN {x m w : Int} (hx : 0 ≤ x ∧ x ≤ 999000) (hm : 0 ≤ m ∧ m ≤ 59940) (hw : 1 ≤ w ∧ w ≤ 8) : 0 ≤ 480 * x + (1000 * m - 60 * x) * w ∧ 480 * x + (1000 * m - 60 * x) * w ≤ 479520000 := by
  rcases (show w = 1 ∨ w = 2 ∨ w = 3 ∨ w = 4 ∨ w = 5 ∨ w = 6 ∨ w = 7 ∨ w = 8 by omega) with rfl | rfl | rfl | rfl | rfl | rfl | rfl | rfl <;> omega
theorem smo_r {s : Nat → Int} {w : Int} (hs : ∀ k, 0 ≤ s k ∧ s k ≤ 59940) (hw : 1 ≤ w ∧ w ≤ 8) : ∀ k : Nat, 0 ≤ smo s w k ∧ smo s w k ≤ 999000
  | 0 => by
    have := hs 0
    show 0 ≤ (1000 * s 0) / 60 ∧ (1000 * s 0) / 60 ≤ 999000
    omega
  | k + 1 => by
    have := smN (smo_r hs hw k) (hs (k + 1)) hw
    show 0 ≤ (480 * smo s w k + (1000 * s (k + 1) - 60 * smo s w k) * w) / 480 ∧ (480 * smo s w k + (1000 * s (k + 1) - 60 * smo s w k) * w) / 480 ≤ 999000
    omega
theorem xor_nn {n : Int} (h : 0 ≤ n ∧ n < 9223372036854775808) : 0 ≤ (i64 n ^^^ i64 480).toInt := by
  obtain ⟨m, rfl⟩ : ∃ m : Nat, n = m := ⟨n.toNat, by omega⟩
  have e1 : i64 (m : Int) = lN m := by rw [← lg_nat (n := m) (by omega)]; exact lg_i m
  have e2 : i64 480 = lN 480 := by rw [show (480 : Int) = lg 480 from (lg_nat (n := 480) (by decide)).symm]; exact lg_i 480
  have e3 : lN m ^^^ lN 480 = lN (m ^^^ 480) := Int64.toBitVec_inj.mp (BitVec.eq_of_toNat_eq (by
    rw [Int64.toBitVec_xor, BitVec.toNat_xor]
    show BitVec.toNat (BitVec.ofNat 64 m) ^^^ BitVec.toNat (BitVec.ofNat 64 480) = BitVec.toNat (BitVec.ofNat 64 (m ^^^ 480))
    rw [BitVec.toNat_ofNat, BitVec.toNat_ofNat, BitVec.toNat_ofNat, Nat.xor_mod_two_pow]))
  rw [e1, e2, e3, pk_lT (Nat.xor_lt_two_pow (n := 63) (by omega) (by decide))]
  omega
section
variable {X : Nat × (Int → Int)}
def svl (s : Nat → Int) (w : Int) (n : Nat) : Int := match n with
  | 0 => 0
  | k + 1 => smo s w k
theorem K199 {h : HP} {l : List Int} {m s : Int → Int} {w : Int} {p : Nat} (r : RowIs 37 h l m s) (hm : ∀ g, 0 ≤ m g ∧ m g ≤ 59940) (hw : 1 ≤ w ∧ w ≤ 8) (hp : p < l.length) : Wp X 1 199 0 [vr 37, vi p, vi w, vu, vu, vu, vu, vu] [] h (fun v h' => v = some (vi (smo (msq m l) w p)) ∧ h' = h) := by
  have hl := r.2.1
  have hmq : ∀ k, 0 ≤ msq m l k ∧ msq m l k ≤ 59940 := fun k => hm _
  have L : ∀ (k n : Nat) (z5 z6 : aV), n + k = p + 1 → Wp X 1 199 5 [vr 37, vi p, vi w, vi (svl (msq m l) w n), vi n, z5, z6, vu] [] h (fun v h' => v = some (vi (smo (msq m l) w p)) ∧ h' = h) := by
    intro k
    induction k with
    | zero =>
      intro n z5 z6 hn
      have hn : n = p + 1 := by omega
      subst hn
      exact S199_37_5 _ _ _ _ _ _ ⟨fun _ => ⟨rfl, rfl⟩, fun c => absurd c (by omega)⟩
    | succ k ih =>
      intro n z5 z6 hn
      have e39 : h 39 (n : Int) = msq m l n := (r.2.2 n (by omega)).2.1
      refine S199_37_5 _ _ _ _ _ _ ⟨fun c => absurd c (by omega), fun _ => ⟨fun c => absurd c (by rw [r.1]; omega), fun _ => ⟨fun c => ?_, fun c => ?_⟩⟩⟩
      · obtain ⟨q, rfl⟩ : ∃ q, n = q + 1 := ⟨n - 1, by omega⟩
        have sr := smo_r hmq hw q
        have mr := hmq (q + 1)
        have e : svl (msq m l) w (q + 1) = smo (msq m l) w q := rfl
        have go : ∀ v z5 z6, v = smo (msq m l) w (q + 1) → Wp X 1 199 5 [vr 37, vi p, vi w, vi v, vi (((q + 1 : Nat) : Int) + 1), z5, z6, vu] [] h (fun v h' => v = some (vi (smo (msq m l) w p)) ∧ h' = h) := fun v z5 z6 ev => by
          rw [ev]; exact ih (q + 2) z5 z6 (by omega)
        have en : smo (msq m l) w (q + 1) = (480 * smo (msq m l) w q + (1000 * msq m l (q + 1) - 60 * smo (msq m l) w q) * w) / 480 := rfl
        clear ih
        rw [e39, e]
        generalize msq m l (q + 1) = mm at *
        generalize smo (msq m l) w q = x at *
        have N := smN sr mr hw
        have b1 := mulB sr.1 sr.2 (show 0 ≤ 8 - w by omega) (show 8 - w ≤ 7 by omega)
        have b2 := mulB (show 0 ≤ 1000 * mm by omega) (show 1000 * mm ≤ 59940000 by omega) (show 0 ≤ w by omega) hw.2
        have id := nid x mm w
        have xn := xor_nn (n := x * (8 - w) * 60 + 1000 * mm * w) (by omega)
        have td : Int.tdiv (x * (8 - w) * 60 + 1000 * mm * w) 480 = (x * (8 - w) * 60 + 1000 * mm * w) / 480 := Int.tdiv_eq_ediv_of_nonneg (by omega)
        rw [lcp_ge, lcp_l, td]
        refine ⟨by unfold R32; omega, by unfold R64; omega, by unfold R64; omega, ⟨by omega, by omega⟩, by unfold R64; omega, by unfold R64; omega, by unfold R64; omega, by unfold R64; omega, fun _ => ⟨by unfold R32; omega, go _ _ _ ?_⟩, fun c => absurd c (by omega)⟩
        rw [en, id]
      · have hn0 : n = 0 := by omega
        subst hn0
        have mr := hmq 0
        have e0 : svl (msq m l) w 0 = 0 := rfl
        have go : ∀ v z5 z6, v = smo (msq m l) w 0 → Wp X 1 199 5 [vr 37, vi p, vi w, vi v, vi (((0 : Nat) : Int) + 1), z5, z6, vu] [] h (fun v h' => v = some (vi (smo (msq m l) w p)) ∧ h' = h) := fun v z5 z6 ev => by
          rw [ev]; exact ih 1 z5 z6 (by omega)
        have go1 : ∀ v z5 z6, v = smo (msq m l) w 0 → Wp X 1 199 5 [vr 37, vi p, vi w, vi v, vi 1, z5, z6, vu] [] h (fun v h' => v = some (vi (smo (msq m l) w p)) ∧ h' = h) := fun v z5 z6 ev => go v z5 z6 ev
        have en : smo (msq m l) w 0 = (1000 * msq m l 0) / 60 := rfl
        clear ih
        rw [e39, e0]
        generalize msq m l 0 = mm at *
        have xn := xor_nn (n := 0 * 0 * 60 + 1000 * mm * 8) (by omega)
        have td : Int.tdiv (0 * 0 * 60 + 1000 * mm * 8) 480 = (0 * 0 * 60 + 1000 * mm * 8) / 480 := Int.tdiv_eq_ediv_of_nonneg (by omega)
        rw [lcp_ge, lcp_l, td]
        have fin : (0 * 0 * 60 + 1000 * mm * 8) / 480 = smo (msq m l) w 0 := by rw [en]; omega
        repeat' first
          | exact go _ _ _ fin
          | exact go1 _ _ _ fin
          | refine ⟨by first | omega | (unfold R32; omega) | (unfold R64; omega), ?_⟩
          | refine ⟨fun _ => ?_, fun c => absurd c (by omega)⟩
  exact S199_37_0 _ _ (L (p + 1) 0 _ _ (by omega))
def B_smo (h : HP) (g : Int) : Int := if cnp (VL h) g 5 ≠ 0 then smo (msq (mnV (VL h)) (rwl (VL h) (gn h))) (h 97 7) (plc (rwl (VL h) (gn h)) g) else -3
def A_smo (h : HP) (g : Int) : Int := if 0 ≤ g ∧ g < h 89 5 then B_smo h g else -2
theorem C23 {h : HP} (i : Inv h) (y1 : Int) : Wp X 2 23 0 [vr 6, vi y1] [] h (fun r h1 => r = some (vi (A_smo h y1)) ∧ h1 = h) := by
  have cv := i.cv
  have g8 := i.g8
  have t := i.tok.1
  have hV := VL_ok i.tok
  have hA : A_smo h y1 = if 0 ≤ y1 ∧ y1 < h 89 5 then B_smo h y1 else -2 := rfl
  refine S23_6_0 _ ⟨fun q => ⟨by rw [hA, if_neg (by omega)], rfl⟩, fun q1 => ⟨fun q => ⟨by rw [hA, if_neg (by omega)], rfl⟩, fun q2 => ⟨⟨by omega, by omega⟩, ?_⟩⟩⟩
  have c := (cv.1 y1 q1 (by omega)).2.1
  have mr := mnV_r hV y1
  rw [if_pos ⟨q1, by omega⟩] at hA
  rw [c]
  by_cases hc : cnp (VL h) y1 5 = 0
  · rw [if_pos hc]
    refine ⟨fun q => absurd rfl q, fun _ => S23_6_52 _ _ _ ⟨?_, rfl⟩⟩
    rw [hA]; unfold B_smo; rw [if_neg (fun q => q hc)]
  · rw [if_neg hc]
    have hg : y1 ∈ rwl (VL h) (gn h) := i.rowm.mpr ⟨q1, by omega, hc⟩
    have pl := plc_lt hg
    refine ⟨fun _ => (K195 i.row hg).mono fun v h2 _ f => ?_, fun q => absurd q (by omega)⟩
    obtain ⟨rfl, rfl⟩ := f
    refine S23_6_42 _ _ ?_
    rw [i.1.1.1 7 (by omega) (by omega)]
    refine (K199 i.row (fun g => mnV_r hV g) i.1.1.2.2.2.2.2.2.1 pl.1).mono fun v h3 _ f => ?_
    obtain ⟨rfl, rfl⟩ := f
    refine S23_6_52 _ _ _ ⟨?_, rfl⟩
    rw [hA]; unfold B_smo; rw [if_pos hc]
theorem M130 {h h1 : HP} (i : Inv h) (e : P h1 = P h) {y1 : Int} (hg : 0 ≤ y1 ∧ y1 < h 89 5) : Wp X 1 130 0 [vr 89, vi y1, vu, vu, vu, vu, vu] [] h1 (fun r h2 => r = some (vi (B_smo h y1)) ∧ Fr fM h1 h2) := by
  have t := i.tok.1
  have hV := VL_ok i.tok
  have hw := i.1.1.2.2.2.2.2.2.1
  refine S130_89_0 _ ((K70 e i.tok).mono fun v h2 _ f => ?_)
  obtain ⟨rfl, e2, F, vv⟩ := f
  have F := F.mo fun _ _ c => fV_M c
  have vg := (vv.2.1 y1 hg.1 hg.2).2.2
  refine S130_89_4 _ ⟨⟨hg.1, by omega⟩, ?_⟩
  rw [vg]
  by_cases hc : cnp (VL h) y1 5 = 0
  · rw [if_pos hc]
    refine ⟨fun q => absurd q (by decide), fun _ => ⟨?_, F⟩⟩
    unfold B_smo; rw [if_neg (fun q => q hc)]
  · rw [if_neg hc]
    have hgm : y1 ∈ rwl (VL h) (gn h) := i.rowm.mpr ⟨hg.1, hg.2, hc⟩
    have pl := plc_lt hgm
    have hl := rwl_len (V := VL h) (gn h)
    have gl : ((gn h : Nat) : Int) = h 89 5 := by unfold gn; omega
    have ar := vv.2.2.1
    have e7 : h2 97 7 = h 97 7 := congrFun (congrFun e2 97) 7
    have bs : B_smo h y1 = smo (msq (mnV (VL h)) (rwl (VL h) (gn h))) (h 97 7) (plc (rwl (VL h) (gn h)) y1) := by unfold B_smo; rw [if_pos hc]
    rw [bs]
    generalize hrw : rwl (VL h) (gn h) = l at *
    have hmq : ∀ k, 0 ≤ msq (mnV (VL h)) l k ∧ msq (mnV (VL h)) l k ≤ 59940 := msq_r hV
    have kp : ∀ z : Unit, Wp X 0 99 0 [vr 89, vi y1, vu] [] h2 (fun v h' => v = some (vi (plc l y1 : Int)) ∧ h' = h2) := fun _ => K99 ar (by omega) hgm
    have L : ∀ (k n : Nat) (z5 : aV), n + k = plc l y1 + 1 → Wp X 1 130 21 [vr 89, vi y1, vl (svl (msq (mnV (VL h)) l) (h 97 7) n), vu, vi n, z5, vu] [] h2 (fun r h2 => r = some (vi (smo (msq (mnV (VL h)) l) (h 97 7) (plc l y1))) ∧ Fr fM h1 h2) := by
      have pl := plc_lt hgm
      intro k
      induction k with
      | zero =>
        intro n z5 hn
        have hn : n = plc l y1 + 1 := by omega
        subst hn
        refine S130_89_21 _ _ _ _ ((kp ()).mono fun v h3 _ f => ?_)
        obtain ⟨rfl, rfl⟩ := f
        have sr := smo_r hmq hw (plc l y1)
        exact T130_89_28 _ _ _ _ _ _ ⟨fun _ => ⟨by show R32 (smo _ _ _); unfold R32; omega, rfl, F⟩, fun c => absurd c (by omega)⟩
      | succ k ih =>
        intro n z5 hn
        refine S130_89_21 _ _ _ _ ((kp ()).mono fun v h3 _ f => ?_)
        obtain ⟨rfl, rfl⟩ := f
        have gm : l.getD n 0 ∈ rwl (VL h) (gn h) := by rw [hrw]; exact getD_mem (by omega)
        have gr := rwl_mem.mp gm
        have f99 : h3 99 (l.getD n 0) = msq (mnV (VL h)) l n := (vv.2.1 _ gr.1 (by omega)).1
        have mr := hmq n
        refine T130_89_28 _ _ _ _ _ _ ⟨fun c => absurd c (by omega), fun _ => ⟨⟨by omega, by omega⟩, ?_⟩⟩
        rw [ar n (by omega), f99, e7]
        refine ⟨⟨gr.1, by omega⟩, by unfold R64; omega, fun c => ?_, fun c => ?_⟩
        · obtain ⟨q, rfl⟩ : ∃ q, n = q + 1 := ⟨n - 1, by omega⟩
          have sr := smo_r hmq hw q
          have es : svl (msq (mnV (VL h)) l) (h3 97 7) (q + 1) = smo (msq (mnV (VL h)) l) (h3 97 7) q := rfl
          have e7' : h3 97 7 = h 97 7 := e7
          have go : ∀ v z5, v = smo (msq (mnV (VL h)) l) (h 97 7) (q + 1) → Wp X 1 130 21 [vr 89, vi y1, vl v, vu, vi (((q + 1 : Nat) : Int) + 1), z5, vu] [] h3 (fun r h2 => r = some (vi (smo (msq (mnV (VL h)) l) (h 97 7) (plc l y1))) ∧ Fr fM h1 h2) := fun v z5 ev => by
            rw [ev]; exact ih (q + 2) z5 (by omega)
          have en : smo (msq (mnV (VL h)) l) (h 97 7) (q + 1) = (480 * smo (msq (mnV (VL h)) l) (h 97 7) q + (1000 * msq (mnV (VL h)) l (q + 1) - 60 * smo (msq (mnV (VL h)) l) (h 97 7) q) * h 97 7) / 480 := rfl
          have es : svl (msq (mnV (VL h)) l) (h 97 7) (q + 1) = smo (msq (mnV (VL h)) l) (h 97 7) q := rfl
          clear ih
          rw [es]
          have N := smN sr mr hw
          generalize h 97 7 = w at *
          generalize msq (mnV (VL h)) l (q + 1) = mm at *
          generalize smo (msq (mnV (VL h)) l) w q = x at *
          have td : Int.tdiv (480 * x + (1000 * mm - 60 * x) * w) 480 = (480 * x + (1000 * mm - 60 * x) * w) / 480 := Int.tdiv_eq_ediv_of_nonneg N.1
          rw [td]
          generalize (1000 * mm - 60 * x) * w = y at *
          exact ⟨by unfold R64; omega, by unfold R64; omega, by unfold R64; omega, by unfold R64; omega, by unfold R64; omega, by unfold R64; omega, by unfold R64; omega, fun _ => go _ _ en.symm, fun c => absurd c (by omega)⟩
        · have hn0 : n = 0 := by omega
          subst hn0
          have go : ∀ v z5, v = smo (msq (mnV (VL h)) l) (h 97 7) 0 → Wp X 1 130 21 [vr 89, vi y1, vl v, vu, vi (((0 : Nat) : Int) + 1), z5, vu] [] h3 (fun r h2 => r = some (vi (smo (msq (mnV (VL h)) l) (h 97 7) (plc l y1))) ∧ Fr fM h1 h2) := fun v z5 ev => by
            rw [ev]; exact ih 1 z5 (by omega)
          have go1 : ∀ v z5, v = smo (msq (mnV (VL h)) l) (h 97 7) 0 → Wp X 1 130 21 [vr 89, vi y1, vl v, vu, vi 1, z5, vu] [] h3 (fun r h2 => r = some (vi (smo (msq (mnV (VL h)) l) (h 97 7) (plc l y1))) ∧ Fr fM h1 h2) := fun v z5 ev => go v z5 ev
          have en : smo (msq (mnV (VL h)) l) (h 97 7) 0 = (1000 * msq (mnV (VL h)) l 0) / 60 := rfl
          clear ih
          generalize msq (mnV (VL h)) l 0 = mm at *
          have td : Int.tdiv (1000 * mm) 60 = (1000 * mm) / 60 := Int.tdiv_eq_ediv_of_nonneg (by omega)
          rw [td]
          repeat' first
            | exact go _ _ en.symm
            | exact go1 _ _ en.symm
            | refine ⟨by first | omega | (unfold R32; omega) | (unfold R64; omega), ?_⟩
            | refine ⟨fun _ => ?_, fun c => absurd c (by omega)⟩
    exact ⟨fun _ => L (plc l y1 + 1) 0 _ (by omega), fun q => absurd rfl q⟩
theorem a23 (y1 : Int) : Ag X Inv 2 23 2 131 vi [vr 6, vi y1] [vr 89, vi y1] := by
  refine ag_q (fun h => A_smo h y1) (fun h i => (C23 i y1).mono fun r h1 _ f => ⟨f.1, q_same i f.2⟩) (fun h h1 i e => ?_)
  have t := i.tok.1
  have g5 : h1 89 5 = h 89 5 := congrFun (congrFun e 89) 5
  have hA : A_smo h y1 = if 0 ≤ y1 ∧ y1 < h 89 5 then B_smo h y1 else -2 := rfl
  refine T131_89_0 _ ?_
  rw [g5]
  refine ⟨by unfold R32; omega, fun q => ⟨by rw [hA, if_neg (by omega)], Fr.rf⟩, fun q1 => ⟨fun q => ⟨by rw [hA, if_neg (by omega)], Fr.rf⟩, fun q2 => (M130 i e ⟨q1, by omega⟩).mono fun v h2 _ f => ?_⟩⟩
  obtain ⟨rfl, F⟩ := f
  refine S131_89_13 _ _ _ ⟨by rw [hA, if_pos (by omega)], F⟩
end
