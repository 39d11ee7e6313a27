-- ===== write agrees =====
def wvl (h : HP) (i : Int) : Int := if cnp (VL h) i 5 = 0 then -1 else if qsg (mq5 h) i = 8 then 4 else qsg (mq5 h) i
theorem wvl_r {h : HP} {i : Int} : -1 ≤ wvl h i ∧ wvl h i ≤ 8 := by
  have := qsg_r (q := mq5 h) (g := i)
  unfold wvl
  repeat' split
  all_goals omega
theorem bm_s {v : Int} (hv : -1 ≤ v ∧ v ≤ 8) : Int.bmod v 256 = v ∧ Int.bmod v 65536 = v := by
  rcases (show v = -1 ∨ v = 0 ∨ v = 1 ∨ v = 2 ∨ v = 3 ∨ v = 4 ∨ v = 5 ∨ v = 6 ∨ v = 7 ∨ v = 8 by omega) with rfl | rfl | rfl | rfl | rfl | rfl | rfl | rfl | rfl | rfl <;> exact ⟨rfl, rfl⟩
section
variable {X : Nat × (Int → Int)}
theorem sh_i2_81 {h h2 : HP} (i : Inv h) (F : Fr (fun a j => fSh 81 0 a j ∨ fM a j) h h2) (hi : I_sh 81 0 h2) : Inv h2 := by
  obtain ⟨⟨i1, i2, i3, i4, i5, i6, i7, i8⟩, nt⟩ := i
  refine ⟨⟨i1.fr F (fun a j c => by unfold fSh fM scr at c; unfold rSet; omega), i2.fr F (fun a j c => by unfold fSh fM scr at c; unfold rTel; omega), i3.fr i2.1.1.2.1 F (fun a j c => by unfold fSh fM scr at c; unfold rDer; omega), i4.fr F (fun a j c => by unfold fSh fM scr at c; omega), ?_, i6.fr F (fun a j c => by unfold fSh fM scr at c; unfold rC; omega), i7.fr F (fun a j c => by unfold fSh fM scr at c; unfold rO; omega), i8.fr F (fun a j c => by unfold fSh fM scr at c; unfold rL; omega)⟩, nt.fr2 F (fun a j c => by unfold fSh fM scr at c; omega)⟩
  refine ⟨?_, ?_, ?_, ?_⟩
  · first | exact hi | exact i5.1.fr F (fun a j c => by unfold fSh fM scr at c; unfold rSh; omega)
  · first | exact hi | exact i5.2.1.fr F (fun a j c => by unfold fSh fM scr at c; unfold rSh; omega)
  · first | exact hi | exact i5.2.2.1.fr F (fun a j c => by unfold fSh fM scr at c; unfold rSh; omega)
  · first | exact hi | exact i5.2.2.2.fr F (fun a j c => by unfold fSh fM scr at c; unfold rSh; omega)
theorem wm_81 {h b1 : HP} (i : Inv h) {N : Nat} (hN : (N : Int) = if h 89 5 < h 91 0 then h 89 5 else h 91 0) (hf : 0 ≤ h 90 0) (hM : 0 < qM (mq5 h) (ob (mq5 h))) (F0 : Fr (fun a j => a = 82 ∧ 0 ≤ j ∧ j < N) h b1) (qv : ∀ q : Nat, q < N → b1 82 q = wvl h q) : Wp X 4 132 0 [vr 89, vi 0, vu, vu] [] b1 (fun r2 h2 => r2 = some (vi N) ∧ Inv h2) := by
  have sh := sh_of_81 i
  have t := i.tok.1
  have e5 : b1 89 5 = h 89 5 := F0 _ _ (by omega)
  have e90 : b1 90 0 = h 90 0 := F0 _ _ (by omega)
  have e91 : b1 91 0 = h 91 0 := F0 _ _ (by omega)
  have T1 : Tok b1 := (i.1.2.1.fr F0 (fun a j c => by unfold rTel; omega)).1
  have S1 : Sok b1 := (i.1.1.fr F0 (fun a j c => by unfold rSet; omega)).2.1
  have m1 : mq5 b1 = mq5 h := mq5.fr F0 (fun a j c => by unfold rDer; omega)
  have v1 : VL b1 = VL h := congrArg (fun q : LN => q.1) m1
  refine T132_89_0 _ ?_
  rw [e90]
  refine ⟨fun c => absurd c (by omega), fun _ => ⟨fun c => absurd c (by omega), fun _ => ⟨by omega, fun _ => (K78 T1 S1 rfl).mono fun v h2 _ f => ?_, fun c => absurd c (by omega)⟩⟩⟩
  obtain ⟨rfl, e2, F, vv, B⟩ := f
  rw [m1, if_pos hM]
  have F : Fr fM b1 h2 := F.mo fun _ _ c => fB_M c
  have g5 : h2 89 5 = h 89 5 := (congrFun (congrFun e2 89) 5).trans e5
  have g90 : h2 90 0 = h 90 0 := (congrFun (congrFun e2 90) 0).trans e90
  have g91 : h2 91 0 = h 91 0 := (congrFun (congrFun e2 91) 0).trans e91
  have g97 : h2 97 2 = (mq5 b1).2.2.2.2 := congrFun (congrFun e2 97) 2
  have hM1 : 0 < qM (mq5 b1) (ob (mq5 b1)) := by rw [m1]; exact hM
  have L : ∀ (k n : Nat) (h3 : HP), n + k = N → Fr (fun a j => a = 92 ∧ 60 * 0 ≤ j ∧ j < 60 * 0 + (N : Int)) h2 h3 → (∀ q : Nat, q < n → h3 92 (60 * 0 + q) = wvl h q) → Wp X 4 132 64 [vr 89, vi 0, vi N, vi n] [] h3 (fun r2 h2 => r2 = some (vi N) ∧ Inv h2) := by
    intro k
    induction k with
    | zero =>
      intro n h3 hn F3 w
      refine S132_89_64 _ _ _ ⟨fun _ => ⟨rfl, ?_⟩, fun c => absurd c (by omega)⟩
      have FF : Fr (fun a j => fSh 81 0 a j ∨ fM a j) h h3 := ((F0.mo fun a j c => by unfold fSh; omega).tr (F.mo fun a j c => .inr c)).tr (F3.mo fun a j c => by unfold fSh; omega)
      refine sh_i2_81 i FF ?_
      have x1 : h3 81 1 = h 81 1 := ((F3 _ _ (by omega)).trans (F _ _ (by unfold fM scr; omega))).trans (F0 _ _ (by omega))
      have x2 : h3 81 2 = h 81 2 := ((F3 _ _ (by omega)).trans (F _ _ (by unfold fM scr; omega))).trans (F0 _ _ (by omega))
      have x90 : h3 90 0 = h 90 0 := (F3 _ _ (by omega)).trans g90
      have x91 : h3 91 0 = h 91 0 := (F3 _ _ (by omega)).trans g91
      unfold I_sh
      rw [x1, x2, x90, x91]
      refine ⟨sh.1, sh.2.1, sh.2.2.1, sh.2.2.2.1, sh.2.2.2.2.1, fun c => ⟨(sh.2.2.2.2.2 c).1, fun q q0 q1 => ?_⟩⟩
      have xi : h3 (81 + 1) q = b1 82 q := (F3 _ _ (by omega)).trans (F _ _ (by unfold fM scr; omega))
      rw [xi]
      by_cases qn : q < N
      · obtain ⟨p, rfl⟩ : ∃ p : Nat, q = p := ⟨q.toNat, by omega⟩
        have := wvl_r (h := h) (i := (p : Int))
        rw [qv p (by omega), w p (by omega)]
        exact ⟨rfl, by unfold R32; omega⟩
      · have y1 : b1 82 q = h (81 + 1) q := F0 _ _ (by omega)
        have y2 : h3 92 (60 * 0 + q) = h 92 (60 * 0 + q) := ((F3 _ _ (by omega)).trans (F _ _ (by unfold fM scr; omega))).trans (F0 _ _ (by omega))
        rw [y1, y2]
        exact (sh.2.2.2.2.2 c).2 q q0 q1
    | succ k ih =>
      intro n h3 hn F3 w
      have hnG : (n : Int) < h 89 5 := by
        have : (N : Int) ≤ h 89 5 := by rw [hN]; split <;> omega
        omega
      have n60 : (N : Int) ≤ 60 := by
        have := sh.2.2.2.2.1
        rw [hN]; split <;> omega
      have vv3 : VV b1 h3 := vv.fr F3 (by omega) (fun a j a1 a2 => by omega)
      have B3 : BB (mq5 b1) (ob (mq5 b1)) h3 := ⟨(F3 _ _ (by omega)).trans B.1, (F3 _ _ (by omega)).trans B.2.1, (F3 _ _ (by omega)).trans B.2.2.1, (F3 _ _ (by omega)).trans B.2.2.2⟩
      have g97' : h3 97 2 = (mq5 b1).2.2.2.2 := (F3 _ _ (by omega)).trans g97
      have x90 : h3 90 0 = h 90 0 := (F3 _ _ (by omega)).trans g90
      have vg : h3 101 (n : Int) = if cnp (VL h) n 5 = 0 then 1 else 0 := by
        have := (vv3.2.1 n (by omega) (by omega)).2.2
        rw [v1] at this; exact this
      have fin : ∀ v : Int, v = wvl h n → Wp X 4 132 103 [vr 89, vi 0, vi N, vi n] [vi v, vi (h 90 0), vi (60 * 0 + (n : Int)), vr 92] h3 (fun r2 h2 => r2 = some (vi N) ∧ Inv h2) := by
        intro v ev
        have go : Wp X 4 132 64 [vr 89, vi 0, vi N, vi ((n : Int) + 1)] [] (upd2 h3 92 (60 * 0 + (n : Int)) v) (fun r2 h2 => r2 = some (vi N) ∧ Inv h2) := ih (n + 1) _ (by omega) (F3.up ⟨rfl, by omega, by omega⟩) (fun q hq => by
          rw [upd2_at]
          by_cases y : q = n
          · rw [if_pos (by omega), y, ev]
          · rw [if_neg (by omega)]; exact w q (by omega))
        have bb := bm_s (v := v) (by rw [ev]; exact wvl_r)
        refine S132_89_103 _ _ _ _ _ _ ?_
        rw [bb.1, bb.2]
        exact ⟨fun _ => ⟨fun _ => ⟨by omega, by unfold R32; omega, go⟩, fun _ => ⟨by omega, by unfold R32; omega, go⟩⟩, fun _ => ⟨by omega, by unfold R32; omega, go⟩⟩
      clear ih
      refine S132_89_64 _ _ _ ⟨fun c => absurd c (by omega), fun _ => ⟨by unfold R32; omega, by unfold R32; omega, by omega, by omega, ?_⟩⟩
      rw [vg, x90]
      by_cases hc : cnp (VL h) n 5 = 0
      · rw [if_pos hc]
        exact ⟨fun q => absurd q (by decide), fun _ => fin (-1) (by unfold wvl; rw [if_pos hc])⟩
      · rw [if_neg hc]
        refine ⟨fun _ => (K83s T1 S1 g97' vv3 B3 hM1 (g := n) ⟨by omega, by omega⟩).mono fun v h4 _ f => ?_, fun q => absurd rfl q⟩
        obtain ⟨rfl, rfl⟩ := f
        exact fin _ (by unfold wvl; rw [if_neg hc, m1])
  refine S132_89_29 _ _ ⟨fun _ => ⟨by omega, ?_⟩, fun c => absurd c (by decide)⟩
  rw [g5, g91]
  have l0 := L N 0 h2 (by omega) Fr.rf (fun q hq => absurd hq (Nat.not_lt_zero q))
  exact ⟨fun c => by rw [show h 89 5 = (N : Int) by rw [hN]; split <;> omega]; exact l0, fun c => by rw [show h 91 0 = (N : Int) by rw [hN]; split <;> omega]; exact l0⟩
theorem wc_81 {h : HP} (i : Inv h) : (((h 81 1) ≠ (-1) → (((h 36 0) ≤ 0 → AgP X 4 132 [vr 89, vi 0, vu, vu] (some (vi (-3))) h) ∧ (0 < (h 36 0) → (((h 8 8) < (h 81 2) → Wp X 3 29 63 [vr 6, vi 0, vr 81, vi (h 8 8), vi 0] [] h (AgP X 4 132 [vr 89, vi 0, vu, vu])) ∧ ((h 81 2) ≤ (h 8 8) → Wp X 3 29 63 [vr 6, vi 0, vr 81, vi (h 81 2), vi 0] [] h (AgP X 4 132 [vr 89, vi 0, vu, vu])))))) ∧ ((h 81 1) = (-1) → AgP X 4 132 [vr 89, vi 0, vu, vu] (some (vi (-11))) (upd2 h 6 10 1))) := by
  have sh := sh_of_81 i
  have L := i.ll
  have hL := i.lok
  have cv := i.cv
  have t := i.tok.1
  have s1 := sh.1
  have s2 := sh.2.1
  have s4 := sh.2.2.2.1
  have s5 := sh.2.2.2.2.1
  have g8 := i.g8
  rw [L.1]
  refine ⟨fun q1 => ?_, fun q1 => ⟨-11, rfl, T132_89_0 _ ?_⟩⟩
  · have hf : 0 ≤ h 90 0 := by omega
    have e2 := (sh.2.2.2.2.2 hf).1
    refine ⟨fun q2 => ⟨-3, rfl, T132_89_0 _ ⟨fun c => absurd c (by omega), fun _ => ⟨fun c => absurd c (by omega), fun _ => ⟨by omega, fun _ => (K78 i.tok i.sok rfl).mono fun v h2 _ f => ?_, fun c => absurd c (by omega)⟩⟩⟩⟩, fun q2 => ?_⟩
    · obtain ⟨rfl, e, F, _, _⟩ := f
      have F : Fr fM h h2 := F.mo fun _ _ c => fB_M c
      rw [if_neg (by omega)]
      exact S132_89_29 _ _ ⟨fun c => absurd rfl c, fun _ => ⟨rfl, Inv_q i e (i.2.fr F)⟩⟩
    · obtain ⟨N, hN⟩ : ∃ N : Nat, (N : Int) = if h 89 5 < h 91 0 then h 89 5 else h 91 0 := ⟨(if h 89 5 < h 91 0 then h 89 5 else h 91 0).toNat, by split <;> omega⟩
      have LP : ∀ (k n : Nat) (h1 : HP), n + k = N → Fr (fun a j => a = 82 ∧ 0 ≤ j ∧ j < (N : Int)) h h1 → (∀ q : Nat, q < n → h1 82 q = wvl h q) → Wp X 3 29 63 [vr 6, vi 0, vr 81, vi N, vi n] [] h1 (AgP X 4 132 [vr 89, vi 0, vu, vu]) := by
        intro k
        induction k with
        | zero =>
          intro n h1 hn F0 w
          exact S29_6_63a _ _ _ ⟨fun _ => ⟨N, rfl, wm_81 i hN hf q2 F0 (fun q hq => w q (by omega))⟩, fun c => absurd c (by omega)⟩
        | succ k ih =>
          intro n h1 hn F0 w
          have hnG : (n : Int) < h 89 5 := by
            have : (N : Int) ≤ h 89 5 := by rw [hN]; split <;> omega
            omega
          have hnS : (n : Int) < h 91 0 := by
            have : (N : Int) ≤ h 91 0 := by rw [hN]; split <;> omega
            omega
          have y8 : h1 8 8 = h 89 5 := (F0 _ _ (by omega)).trans g8
          have y2 : h1 81 2 = h 91 0 := (F0 _ _ (by omega)).trans e2
          have c := (cv.1 n (by omega) hnG).2.1
          have y34 : h1 34 (n : Int) = _ := (F0 _ _ (by omega)).trans c
          have L1 : LL0 (mq5 h) (ob (mq5 h)) h1 := (L.up q2).fr F0 (fun j => by omega)
          have mr : 0 ≤ mnV (VL h) n ∧ mnV (VL h) n ≤ 59940 := mnV_r hL.1 n
          have go : ∀ v : Int, v = wvl h n → Wp X 3 29 63 [vr 6, vi 0, vr 81, vi N, vi ((n : Int) + 1)] [] (upd2 h1 82 n v) (AgP X 4 132 [vr 89, vi 0, vu, vu]) := fun v ev => ih (n + 1) _ (by omega) (F0.up ⟨rfl, by omega, by omega⟩) (fun q hq => by
            rw [upd2_at]
            by_cases y : q = n
            · rw [if_pos (by omega), y, ev]
            · rw [if_neg (by omega)]; exact w q (by omega))
          clear ih
          refine S29_6_63a _ _ _ ⟨fun c => absurd c (by omega), fun _ => ⟨fun c => absurd c (by omega), fun _ => ⟨fun c => absurd c (by omega), fun _ => ⟨⟨by omega, by omega⟩, ?_⟩⟩⟩⟩
          rw [y34, y2, (bm_s (v := -1) (by omega)).1, (bm_s (v := -1) (by omega)).2]
          by_cases hc : cnp (VL h) n 5 = 0
          · rw [if_pos hc]
            have ev : -1 = wvl h n := by unfold wvl; rw [if_pos hc]
            exact ⟨fun q => absurd rfl q, fun _ => ⟨by unfold R32; omega, fun q => absurd q (by omega), fun _ => ⟨fun _ => ⟨fun _ => go _ ev, fun _ => go _ ev⟩, fun _ => go _ ev⟩⟩⟩
          · rw [if_neg hc]
            refine ⟨fun _ => (K172 hL L1 mr).mono fun v h2 _ f => ?_, fun q => absurd q (by omega)⟩
            obtain ⟨rfl, rfl⟩ := f
            have eq : qst (mq5 h) (mnV (VL h) n) = qsg (mq5 h) n := rfl
            have qr := qsg_r (q := mq5 h) (g := n)
            have ew : wvl h n = if qsg (mq5 h) n = 8 then 4 else qsg (mq5 h) n := by unfold wvl; rw [if_neg hc]
            rw [eq]
            refine S29_6_104a _ _ _ _ _ ?_
            rw [y2, (bm_s (v := 4) (by omega)).1, (bm_s (v := 4) (by omega)).2, (bm_s (v := qsg (mq5 h) n) (by omega)).1, (bm_s (v := qsg (mq5 h) n) (by omega)).2]
            refine ⟨fun q => ?_, fun q => ?_⟩
            · rw [if_neg q] at ew
              exact ⟨fun q => absurd q (by omega), fun _ => ⟨by unfold R32; omega, fun q => absurd q (by omega), fun _ => ⟨fun _ => ⟨fun _ => ⟨by omega, by unfold R32; omega, go _ ew.symm⟩, fun _ => ⟨by omega, by unfold R32; omega, go _ ew.symm⟩⟩, fun _ => ⟨by omega, by unfold R32; omega, go _ ew.symm⟩⟩⟩⟩
            · rw [if_pos q] at ew
              exact ⟨fun q => absurd q (by omega), fun _ => ⟨by unfold R32; omega, fun q => absurd q (by omega), fun _ => ⟨fun _ => ⟨fun _ => ⟨by omega, by unfold R32; omega, go _ ew.symm⟩, fun _ => ⟨by omega, by unfold R32; omega, go _ ew.symm⟩⟩, fun _ => ⟨by omega, by unfold R32; omega, go _ ew.symm⟩⟩⟩⟩
      have l0 := LP N 0 h (by omega) Fr.rf (fun q hq => absurd hq (Nat.not_lt_zero q))
      rw [g8, e2]
      exact ⟨fun c => by rw [show h 89 5 = (N : Int) by rw [hN]; split <;> omega]; exact l0, fun c => by rw [show h 91 0 = (N : Int) by rw [hN]; split <;> omega]; exact l0⟩
  · rw [upd2_ne (a := 6) (b := 90) (by decide)]
    exact ⟨fun c => absurd c (by omega), fun _ => ⟨fun c => absurd c (by omega), fun _ => ⟨by omega, fun c => absurd c (by omega), fun _ => ⟨rfl, fnd i (by omega)⟩⟩⟩⟩
theorem sh_i2_83 {h h2 : HP} (i : Inv h) (F : Fr (fun a j => fSh 83 1 a j ∨ fM a j) h h2) (hi : I_sh 83 1 h2) : Inv h2 := by
  obtain ⟨⟨i1, i2, i3, i4, i5, i6, i7, i8⟩, nt⟩ := i
  refine ⟨⟨i1.fr F (fun a j c => by unfold fSh fM scr at c; unfold rSet; omega), i2.fr F (fun a j c => by unfold fSh fM scr at c; unfold rTel; omega), i3.fr i2.1.1.2.1 F (fun a j c => by unfold fSh fM scr at c; unfold rDer; omega), i4.fr F (fun a j c => by unfold fSh fM scr at c; omega), ?_, i6.fr F (fun a j c => by unfold fSh fM scr at c; unfold rC; omega), i7.fr F (fun a j c => by unfold fSh fM scr at c; unfold rO; omega), i8.fr F (fun a j c => by unfold fSh fM scr at c; unfold rL; omega)⟩, nt.fr2 F (fun a j c => by unfold fSh fM scr at c; omega)⟩
  refine ⟨?_, ?_, ?_, ?_⟩
  · first | exact hi | exact i5.1.fr F (fun a j c => by unfold fSh fM scr at c; unfold rSh; omega)
  · first | exact hi | exact i5.2.1.fr F (fun a j c => by unfold fSh fM scr at c; unfold rSh; omega)
  · first | exact hi | exact i5.2.2.1.fr F (fun a j c => by unfold fSh fM scr at c; unfold rSh; omega)
  · first | exact hi | exact i5.2.2.2.fr F (fun a j c => by unfold fSh fM scr at c; unfold rSh; omega)
theorem wm_83 {h b1 : HP} (i : Inv h) {N : Nat} (hN : (N : Int) = if h 89 5 < h 91 1 then h 89 5 else h 91 1) (hf : 0 ≤ h 90 1) (hM : 0 < qM (mq5 h) (ob (mq5 h))) (F0 : Fr (fun a j => a = 84 ∧ 0 ≤ j ∧ j < N) h b1) (qv : ∀ q : Nat, q < N → b1 84 q = wvl h q) : Wp X 4 132 0 [vr 89, vi 1, vu, vu] [] b1 (fun r2 h2 => r2 = some (vi N) ∧ Inv h2) := by
  have sh := sh_of_83 i
  have t := i.tok.1
  have e5 : b1 89 5 = h 89 5 := F0 _ _ (by omega)
  have e90 : b1 90 1 = h 90 1 := F0 _ _ (by omega)
  have e91 : b1 91 1 = h 91 1 := F0 _ _ (by omega)
  have T1 : Tok b1 := (i.1.2.1.fr F0 (fun a j c => by unfold rTel; omega)).1
  have S1 : Sok b1 := (i.1.1.fr F0 (fun a j c => by unfold rSet; omega)).2.1
  have m1 : mq5 b1 = mq5 h := mq5.fr F0 (fun a j c => by unfold rDer; omega)
  have v1 : VL b1 = VL h := congrArg (fun q : LN => q.1) m1
  refine T132_89_0 _ ?_
  rw [e90]
  refine ⟨fun c => absurd c (by omega), fun _ => ⟨fun c => absurd c (by omega), fun _ => ⟨by omega, fun _ => (K78 T1 S1 rfl).mono fun v h2 _ f => ?_, fun c => absurd c (by omega)⟩⟩⟩
  obtain ⟨rfl, e2, F, vv, B⟩ := f
  rw [m1, if_pos hM]
  have F : Fr fM b1 h2 := F.mo fun _ _ c => fB_M c
  have g5 : h2 89 5 = h 89 5 := (congrFun (congrFun e2 89) 5).trans e5
  have g90 : h2 90 1 = h 90 1 := (congrFun (congrFun e2 90) 1).trans e90
  have g91 : h2 91 1 = h 91 1 := (congrFun (congrFun e2 91) 1).trans e91
  have g97 : h2 97 2 = (mq5 b1).2.2.2.2 := congrFun (congrFun e2 97) 2
  have hM1 : 0 < qM (mq5 b1) (ob (mq5 b1)) := by rw [m1]; exact hM
  have L : ∀ (k n : Nat) (h3 : HP), n + k = N → Fr (fun a j => a = 92 ∧ 60 * 1 ≤ j ∧ j < 60 * 1 + (N : Int)) h2 h3 → (∀ q : Nat, q < n → h3 92 (60 * 1 + q) = wvl h q) → Wp X 4 132 64 [vr 89, vi 1, vi N, vi n] [] h3 (fun r2 h2 => r2 = some (vi N) ∧ Inv h2) := by
    intro k
    induction k with
    | zero =>
      intro n h3 hn F3 w
      refine S132_89_64 _ _ _ ⟨fun _ => ⟨rfl, ?_⟩, fun c => absurd c (by omega)⟩
      have FF : Fr (fun a j => fSh 83 1 a j ∨ fM a j) h h3 := ((F0.mo fun a j c => by unfold fSh; omega).tr (F.mo fun a j c => .inr c)).tr (F3.mo fun a j c => by unfold fSh; omega)
      refine sh_i2_83 i FF ?_
      have x1 : h3 83 1 = h 83 1 := ((F3 _ _ (by omega)).trans (F _ _ (by unfold fM scr; omega))).trans (F0 _ _ (by omega))
      have x2 : h3 83 2 = h 83 2 := ((F3 _ _ (by omega)).trans (F _ _ (by unfold fM scr; omega))).trans (F0 _ _ (by omega))
      have x90 : h3 90 1 = h 90 1 := (F3 _ _ (by omega)).trans g90
      have x91 : h3 91 1 = h 91 1 := (F3 _ _ (by omega)).trans g91
      unfold I_sh
      rw [x1, x2, x90, x91]
      refine ⟨sh.1, sh.2.1, sh.2.2.1, sh.2.2.2.1, sh.2.2.2.2.1, fun c => ⟨(sh.2.2.2.2.2 c).1, fun q q0 q1 => ?_⟩⟩
      have xi : h3 (83 + 1) q = b1 84 q := (F3 _ _ (by omega)).trans (F _ _ (by unfold fM scr; omega))
      rw [xi]
      by_cases qn : q < N
      · obtain ⟨p, rfl⟩ : ∃ p : Nat, q = p := ⟨q.toNat, by omega⟩
        have := wvl_r (h := h) (i := (p : Int))
        rw [qv p (by omega), w p (by omega)]
        exact ⟨rfl, by unfold R32; omega⟩
      · have y1 : b1 84 q = h (83 + 1) q := F0 _ _ (by omega)
        have y2 : h3 92 (60 * 1 + q) = h 92 (60 * 1 + q) := ((F3 _ _ (by omega)).trans (F _ _ (by unfold fM scr; omega))).trans (F0 _ _ (by omega))
        rw [y1, y2]
        exact (sh.2.2.2.2.2 c).2 q q0 q1
    | succ k ih =>
      intro n h3 hn F3 w
      have hnG : (n : Int) < h 89 5 := by
        have : (N : Int) ≤ h 89 5 := by rw [hN]; split <;> omega
        omega
      have n60 : (N : Int) ≤ 60 := by
        have := sh.2.2.2.2.1
        rw [hN]; split <;> omega
      have vv3 : VV b1 h3 := vv.fr F3 (by omega) (fun a j a1 a2 => by omega)
      have B3 : BB (mq5 b1) (ob (mq5 b1)) h3 := ⟨(F3 _ _ (by omega)).trans B.1, (F3 _ _ (by omega)).trans B.2.1, (F3 _ _ (by omega)).trans B.2.2.1, (F3 _ _ (by omega)).trans B.2.2.2⟩
      have g97' : h3 97 2 = (mq5 b1).2.2.2.2 := (F3 _ _ (by omega)).trans g97
      have x90 : h3 90 1 = h 90 1 := (F3 _ _ (by omega)).trans g90
      have vg : h3 101 (n : Int) = if cnp (VL h) n 5 = 0 then 1 else 0 := by
        have := (vv3.2.1 n (by omega) (by omega)).2.2
        rw [v1] at this; exact this
      have fin : ∀ v : Int, v = wvl h n → Wp X 4 132 103 [vr 89, vi 1, vi N, vi n] [vi v, vi (h 90 1), vi (60 * 1 + (n : Int)), vr 92] h3 (fun r2 h2 => r2 = some (vi N) ∧ Inv h2) := by
        intro v ev
        have go : Wp X 4 132 64 [vr 89, vi 1, vi N, vi ((n : Int) + 1)] [] (upd2 h3 92 (60 * 1 + (n : Int)) v) (fun r2 h2 => r2 = some (vi N) ∧ Inv h2) := ih (n + 1) _ (by omega) (F3.up ⟨rfl, by omega, by omega⟩) (fun q hq => by
          rw [upd2_at]
          by_cases y : q = n
          · rw [if_pos (by omega), y, ev]
          · rw [if_neg (by omega)]; exact w q (by omega))
        have bb := bm_s (v := v) (by rw [ev]; exact wvl_r)
        refine S132_89_103 _ _ _ _ _ _ ?_
        rw [bb.1, bb.2]
        exact ⟨fun _ => ⟨fun _ => ⟨by omega, by unfold R32; omega, go⟩, fun _ => ⟨by omega, by unfold R32; omega, go⟩⟩, fun _ => ⟨by omega, by unfold R32; omega, go⟩⟩
      clear ih
      refine S132_89_64 _ _ _ ⟨fun c => absurd c (by omega), fun _ => ⟨by unfold R32; omega, by unfold R32; omega, by omega, by omega, ?_⟩⟩
      rw [vg, x90]
      by_cases hc : cnp (VL h) n 5 = 0
      · rw [if_pos hc]
        exact ⟨fun q => absurd q (by decide), fun _ => fin (-1) (by unfold wvl; rw [if_pos hc])⟩
      · rw [if_neg hc]
        refine ⟨fun _ => (K83s T1 S1 g97' vv3 B3 hM1 (g := n) ⟨by omega, by omega⟩).mono fun v h4 _ f => ?_, fun q => absurd rfl q⟩
        obtain ⟨rfl, rfl⟩ := f
        exact fin _ (by unfold wvl; rw [if_neg hc, m1])
  refine S132_89_29 _ _ ⟨fun _ => ⟨by omega, ?_⟩, fun c => absurd c (by decide)⟩
  rw [g5, g91]
  have l0 := L N 0 h2 (by omega) Fr.rf (fun q hq => absurd hq (Nat.not_lt_zero q))
  exact ⟨fun c => by rw [show h 89 5 = (N : Int) by rw [hN]; split <;> omega]; exact l0, fun c => by rw [show h 91 1 = (N : Int) by rw [hN]; split <;> omega]; exact l0⟩
theorem wc_83 {h : HP} (i : Inv h) : (((h 83 1) ≠ (-1) → (((h 36 0) ≤ 0 → AgP X 4 132 [vr 89, vi 1, vu, vu] (some (vi (-3))) h) ∧ (0 < (h 36 0) → (((h 8 8) < (h 83 2) → Wp X 3 29 63 [vr 6, vi 1, vr 83, vi (h 8 8), vi 0] [] h (AgP X 4 132 [vr 89, vi 1, vu, vu])) ∧ ((h 83 2) ≤ (h 8 8) → Wp X 3 29 63 [vr 6, vi 1, vr 83, vi (h 83 2), vi 0] [] h (AgP X 4 132 [vr 89, vi 1, vu, vu])))))) ∧ ((h 83 1) = (-1) → AgP X 4 132 [vr 89, vi 1, vu, vu] (some (vi (-11))) (upd2 h 6 10 1))) := by
  have sh := sh_of_83 i
  have L := i.ll
  have hL := i.lok
  have cv := i.cv
  have t := i.tok.1
  have s1 := sh.1
  have s2 := sh.2.1
  have s4 := sh.2.2.2.1
  have s5 := sh.2.2.2.2.1
  have g8 := i.g8
  rw [L.1]
  refine ⟨fun q1 => ?_, fun q1 => ⟨-11, rfl, T132_89_0 _ ?_⟩⟩
  · have hf : 0 ≤ h 90 1 := by omega
    have e2 := (sh.2.2.2.2.2 hf).1
    refine ⟨fun q2 => ⟨-3, rfl, T132_89_0 _ ⟨fun c => absurd c (by omega), fun _ => ⟨fun c => absurd c (by omega), fun _ => ⟨by omega, fun _ => (K78 i.tok i.sok rfl).mono fun v h2 _ f => ?_, fun c => absurd c (by omega)⟩⟩⟩⟩, fun q2 => ?_⟩
    · obtain ⟨rfl, e, F, _, _⟩ := f
      have F : Fr fM h h2 := F.mo fun _ _ c => fB_M c
      rw [if_neg (by omega)]
      exact S132_89_29 _ _ ⟨fun c => absurd rfl c, fun _ => ⟨rfl, Inv_q i e (i.2.fr F)⟩⟩
    · obtain ⟨N, hN⟩ : ∃ N : Nat, (N : Int) = if h 89 5 < h 91 1 then h 89 5 else h 91 1 := ⟨(if h 89 5 < h 91 1 then h 89 5 else h 91 1).toNat, by split <;> omega⟩
      have LP : ∀ (k n : Nat) (h1 : HP), n + k = N → Fr (fun a j => a = 84 ∧ 0 ≤ j ∧ j < (N : Int)) h h1 → (∀ q : Nat, q < n → h1 84 q = wvl h q) → Wp X 3 29 63 [vr 6, vi 1, vr 83, vi N, vi n] [] h1 (AgP X 4 132 [vr 89, vi 1, vu, vu]) := by
        intro k
        induction k with
        | zero =>
          intro n h1 hn F0 w
          exact S29_6_63b _ _ _ ⟨fun _ => ⟨N, rfl, wm_83 i hN hf q2 F0 (fun q hq => w q (by omega))⟩, fun c => absurd c (by omega)⟩
        | succ k ih =>
          intro n h1 hn F0 w
          have hnG : (n : Int) < h 89 5 := by
            have : (N : Int) ≤ h 89 5 := by rw [hN]; split <;> omega
            omega
          have hnS : (n : Int) < h 91 1 := by
            have : (N : Int) ≤ h 91 1 := by rw [hN]; split <;> omega
            omega
          have y8 : h1 8 8 = h 89 5 := (F0 _ _ (by omega)).trans g8
          have y2 : h1 83 2 = h 91 1 := (F0 _ _ (by omega)).trans e2
          have c := (cv.1 n (by omega) hnG).2.1
          have y34 : h1 34 (n : Int) = _ := (F0 _ _ (by omega)).trans c
          have L1 : LL0 (mq5 h) (ob (mq5 h)) h1 := (L.up q2).fr F0 (fun j => by omega)
          have mr : 0 ≤ mnV (VL h) n ∧ mnV (VL h) n ≤ 59940 := mnV_r hL.1 n
          have go : ∀ v : Int, v = wvl h n → Wp X 3 29 63 [vr 6, vi 1, vr 83, vi N, vi ((n : Int) + 1)] [] (upd2 h1 84 n v) (AgP X 4 132 [vr 89, vi 1, vu, vu]) := fun v ev => ih (n + 1) _ (by omega) (F0.up ⟨rfl, by omega, by omega⟩) (fun q hq => by
            rw [upd2_at]
            by_cases y : q = n
            · rw [if_pos (by omega), y, ev]
            · rw [if_neg (by omega)]; exact w q (by omega))
          clear ih
          refine S29_6_63b _ _ _ ⟨fun c => absurd c (by omega), fun _ => ⟨fun c => absurd c (by omega), fun _ => ⟨fun c => absurd c (by omega), fun _ => ⟨⟨by omega, by omega⟩, ?_⟩⟩⟩⟩
          rw [y34, y2, (bm_s (v := -1) (by omega)).1, (bm_s (v := -1) (by omega)).2]
          by_cases hc : cnp (VL h) n 5 = 0
          · rw [if_pos hc]
            have ev : -1 = wvl h n := by unfold wvl; rw [if_pos hc]
            exact ⟨fun q => absurd rfl q, fun _ => ⟨by unfold R32; omega, fun q => absurd q (by omega), fun _ => ⟨fun _ => ⟨fun _ => go _ ev, fun _ => go _ ev⟩, fun _ => go _ ev⟩⟩⟩
          · rw [if_neg hc]
            refine ⟨fun _ => (K172 hL L1 mr).mono fun v h2 _ f => ?_, fun q => absurd q (by omega)⟩
            obtain ⟨rfl, rfl⟩ := f
            have eq : qst (mq5 h) (mnV (VL h) n) = qsg (mq5 h) n := rfl
            have qr := qsg_r (q := mq5 h) (g := n)
            have ew : wvl h n = if qsg (mq5 h) n = 8 then 4 else qsg (mq5 h) n := by unfold wvl; rw [if_neg hc]
            rw [eq]
            refine S29_6_104b _ _ _ _ _ ?_
            rw [y2, (bm_s (v := 4) (by omega)).1, (bm_s (v := 4) (by omega)).2, (bm_s (v := qsg (mq5 h) n) (by omega)).1, (bm_s (v := qsg (mq5 h) n) (by omega)).2]
            refine ⟨fun q => ?_, fun q => ?_⟩
            · rw [if_neg q] at ew
              exact ⟨fun q => absurd q (by omega), fun _ => ⟨by unfold R32; omega, fun q => absurd q (by omega), fun _ => ⟨fun _ => ⟨fun _ => ⟨by omega, by unfold R32; omega, go _ ew.symm⟩, fun _ => ⟨by omega, by unfold R32; omega, go _ ew.symm⟩⟩, fun _ => ⟨by omega, by unfold R32; omega, go _ ew.symm⟩⟩⟩⟩
            · rw [if_pos q] at ew
              exact ⟨fun q => absurd q (by omega), fun _ => ⟨by unfold R32; omega, fun q => absurd q (by omega), fun _ => ⟨fun _ => ⟨fun _ => ⟨by omega, by unfold R32; omega, go _ ew.symm⟩, fun _ => ⟨by omega, by unfold R32; omega, go _ ew.symm⟩⟩, fun _ => ⟨by omega, by unfold R32; omega, go _ ew.symm⟩⟩⟩⟩
      have l0 := LP N 0 h (by omega) Fr.rf (fun q hq => absurd hq (Nat.not_lt_zero q))
      rw [g8, e2]
      exact ⟨fun c => by rw [show h 89 5 = (N : Int) by rw [hN]; split <;> omega]; exact l0, fun c => by rw [show h 91 1 = (N : Int) by rw [hN]; split <;> omega]; exact l0⟩
  · rw [upd2_ne (a := 6) (b := 90) (by decide)]
    exact ⟨fun c => absurd c (by omega), fun _ => ⟨fun c => absurd c (by omega), fun _ => ⟨by omega, fun c => absurd c (by omega), fun _ => ⟨rfl, fnd i (by omega)⟩⟩⟩⟩
theorem sh_i2_85 {h h2 : HP} (i : Inv h) (F : Fr (fun a j => fSh 85 2 a j ∨ fM a j) h h2) (hi : I_sh 85 2 h2) : Inv h2 := by
  obtain ⟨⟨i1, i2, i3, i4, i5, i6, i7, i8⟩, nt⟩ := i
  refine ⟨⟨i1.fr F (fun a j c => by unfold fSh fM scr at c; unfold rSet; omega), i2.fr F (fun a j c => by unfold fSh fM scr at c; unfold rTel; omega), i3.fr i2.1.1.2.1 F (fun a j c => by unfold fSh fM scr at c; unfold rDer; omega), i4.fr F (fun a j c => by unfold fSh fM scr at c; omega), ?_, i6.fr F (fun a j c => by unfold fSh fM scr at c; unfold rC; omega), i7.fr F (fun a j c => by unfold fSh fM scr at c; unfold rO; omega), i8.fr F (fun a j c => by unfold fSh fM scr at c; unfold rL; omega)⟩, nt.fr2 F (fun a j c => by unfold fSh fM scr at c; omega)⟩
  refine ⟨?_, ?_, ?_, ?_⟩
  · first | exact hi | exact i5.1.fr F (fun a j c => by unfold fSh fM scr at c; unfold rSh; omega)
  · first | exact hi | exact i5.2.1.fr F (fun a j c => by unfold fSh fM scr at c; unfold rSh; omega)
  · first | exact hi | exact i5.2.2.1.fr F (fun a j c => by unfold fSh fM scr at c; unfold rSh; omega)
  · first | exact hi | exact i5.2.2.2.fr F (fun a j c => by unfold fSh fM scr at c; unfold rSh; omega)
theorem wm_85 {h b1 : HP} (i : Inv h) {N : Nat} (hN : (N : Int) = if h 89 5 < h 91 2 then h 89 5 else h 91 2) (hf : 0 ≤ h 90 2) (hM : 0 < qM (mq5 h) (ob (mq5 h))) (F0 : Fr (fun a j => a = 86 ∧ 0 ≤ j ∧ j < N) h b1) (qv : ∀ q : Nat, q < N → b1 86 q = wvl h q) : Wp X 4 132 0 [vr 89, vi 2, vu, vu] [] b1 (fun r2 h2 => r2 = some (vi N) ∧ Inv h2) := by
  have sh := sh_of_85 i
  have t := i.tok.1
  have e5 : b1 89 5 = h 89 5 := F0 _ _ (by omega)
  have e90 : b1 90 2 = h 90 2 := F0 _ _ (by omega)
  have e91 : b1 91 2 = h 91 2 := F0 _ _ (by omega)
  have T1 : Tok b1 := (i.1.2.1.fr F0 (fun a j c => by unfold rTel; omega)).1
  have S1 : Sok b1 := (i.1.1.fr F0 (fun a j c => by unfold rSet; omega)).2.1
  have m1 : mq5 b1 = mq5 h := mq5.fr F0 (fun a j c => by unfold rDer; omega)
  have v1 : VL b1 = VL h := congrArg (fun q : LN => q.1) m1
  refine T132_89_0 _ ?_
  rw [e90]
  refine ⟨fun c => absurd c (by omega), fun _ => ⟨fun c => absurd c (by omega), fun _ => ⟨by omega, fun _ => (K78 T1 S1 rfl).mono fun v h2 _ f => ?_, fun c => absurd c (by omega)⟩⟩⟩
  obtain ⟨rfl, e2, F, vv, B⟩ := f
  rw [m1, if_pos hM]
  have F : Fr fM b1 h2 := F.mo fun _ _ c => fB_M c
  have g5 : h2 89 5 = h 89 5 := (congrFun (congrFun e2 89) 5).trans e5
  have g90 : h2 90 2 = h 90 2 := (congrFun (congrFun e2 90) 2).trans e90
  have g91 : h2 91 2 = h 91 2 := (congrFun (congrFun e2 91) 2).trans e91
  have g97 : h2 97 2 = (mq5 b1).2.2.2.2 := congrFun (congrFun e2 97) 2
  have hM1 : 0 < qM (mq5 b1) (ob (mq5 b1)) := by rw [m1]; exact hM
  have L : ∀ (k n : Nat) (h3 : HP), n + k = N → Fr (fun a j => a = 92 ∧ 60 * 2 ≤ j ∧ j < 60 * 2 + (N : Int)) h2 h3 → (∀ q : Nat, q < n → h3 92 (60 * 2 + q) = wvl h q) → Wp X 4 132 64 [vr 89, vi 2, vi N, vi n] [] h3 (fun r2 h2 => r2 = some (vi N) ∧ Inv h2) := by
    intro k
    induction k with
    | zero =>
      intro n h3 hn F3 w
      refine S132_89_64 _ _ _ ⟨fun _ => ⟨rfl, ?_⟩, fun c => absurd c (by omega)⟩
      have FF : Fr (fun a j => fSh 85 2 a j ∨ fM a j) h h3 := ((F0.mo fun a j c => by unfold fSh; omega).tr (F.mo fun a j c => .inr c)).tr (F3.mo fun a j c => by unfold fSh; omega)
      refine sh_i2_85 i FF ?_
      have x1 : h3 85 1 = h 85 1 := ((F3 _ _ (by omega)).trans (F _ _ (by unfold fM scr; omega))).trans (F0 _ _ (by omega))
      have x2 : h3 85 2 = h 85 2 := ((F3 _ _ (by omega)).trans (F _ _ (by unfold fM scr; omega))).trans (F0 _ _ (by omega))
      have x90 : h3 90 2 = h 90 2 := (F3 _ _ (by omega)).trans g90
      have x91 : h3 91 2 = h 91 2 := (F3 _ _ (by omega)).trans g91
      unfold I_sh
      rw [x1, x2, x90, x91]
      refine ⟨sh.1, sh.2.1, sh.2.2.1, sh.2.2.2.1, sh.2.2.2.2.1, fun c => ⟨(sh.2.2.2.2.2 c).1, fun q q0 q1 => ?_⟩⟩
      have xi : h3 (85 + 1) q = b1 86 q := (F3 _ _ (by omega)).trans (F _ _ (by unfold fM scr; omega))
      rw [xi]
      by_cases qn : q < N
      · obtain ⟨p, rfl⟩ : ∃ p : Nat, q = p := ⟨q.toNat, by omega⟩
        have := wvl_r (h := h) (i := (p : Int))
        rw [qv p (by omega), w p (by omega)]
        exact ⟨rfl, by unfold R32; omega⟩
      · have y1 : b1 86 q = h (85 + 1) q := F0 _ _ (by omega)
        have y2 : h3 92 (60 * 2 + q) = h 92 (60 * 2 + q) := ((F3 _ _ (by omega)).trans (F _ _ (by unfold fM scr; omega))).trans (F0 _ _ (by omega))
        rw [y1, y2]
        exact (sh.2.2.2.2.2 c).2 q q0 q1
    | succ k ih =>
      intro n h3 hn F3 w
      have hnG : (n : Int) < h 89 5 := by
        have : (N : Int) ≤ h 89 5 := by rw [hN]; split <;> omega
        omega
      have n60 : (N : Int) ≤ 60 := by
        have := sh.2.2.2.2.1
        rw [hN]; split <;> omega
      have vv3 : VV b1 h3 := vv.fr F3 (by omega) (fun a j a1 a2 => by omega)
      have B3 : BB (mq5 b1) (ob (mq5 b1)) h3 := ⟨(F3 _ _ (by omega)).trans B.1, (F3 _ _ (by omega)).trans B.2.1, (F3 _ _ (by omega)).trans B.2.2.1, (F3 _ _ (by omega)).trans B.2.2.2⟩
      have g97' : h3 97 2 = (mq5 b1).2.2.2.2 := (F3 _ _ (by omega)).trans g97
      have x90 : h3 90 2 = h 90 2 := (F3 _ _ (by omega)).trans g90
      have vg : h3 101 (n : Int) = if cnp (VL h) n 5 = 0 then 1 else 0 := by
        have := (vv3.2.1 n (by omega) (by omega)).2.2
        rw [v1] at this; exact this
      have fin : ∀ v : Int, v = wvl h n → Wp X 4 132 103 [vr 89, vi 2, vi N, vi n] [vi v, vi (h 90 2), vi (60 * 2 + (n : Int)), vr 92] h3 (fun r2 h2 => r2 = some (vi N) ∧ Inv h2) := by
        intro v ev
        have go : Wp X 4 132 64 [vr 89, vi 2, vi N, vi ((n : Int) + 1)] [] (upd2 h3 92 (60 * 2 + (n : Int)) v) (fun r2 h2 => r2 = some (vi N) ∧ Inv h2) := ih (n + 1) _ (by omega) (F3.up ⟨rfl, by omega, by omega⟩) (fun q hq => by
          rw [upd2_at]
          by_cases y : q = n
          · rw [if_pos (by omega), y, ev]
          · rw [if_neg (by omega)]; exact w q (by omega))
        have bb := bm_s (v := v) (by rw [ev]; exact wvl_r)
        refine S132_89_103 _ _ _ _ _ _ ?_
        rw [bb.1, bb.2]
        exact ⟨fun _ => ⟨fun _ => ⟨by omega, by unfold R32; omega, go⟩, fun _ => ⟨by omega, by unfold R32; omega, go⟩⟩, fun _ => ⟨by omega, by unfold R32; omega, go⟩⟩
      clear ih
      refine S132_89_64 _ _ _ ⟨fun c => absurd c (by omega), fun _ => ⟨by unfold R32; omega, by unfold R32; omega, by omega, by omega, ?_⟩⟩
      rw [vg, x90]
      by_cases hc : cnp (VL h) n 5 = 0
      · rw [if_pos hc]
        exact ⟨fun q => absurd q (by decide), fun _ => fin (-1) (by unfold wvl; rw [if_pos hc])⟩
      · rw [if_neg hc]
        refine ⟨fun _ => (K83s T1 S1 g97' vv3 B3 hM1 (g := n) ⟨by omega, by omega⟩).mono fun v h4 _ f => ?_, fun q => absurd rfl q⟩
        obtain ⟨rfl, rfl⟩ := f
        exact fin _ (by unfold wvl; rw [if_neg hc, m1])
  refine S132_89_29 _ _ ⟨fun _ => ⟨by omega, ?_⟩, fun c => absurd c (by decide)⟩
  rw [g5, g91]
  have l0 := L N 0 h2 (by omega) Fr.rf (fun q hq => absurd hq (Nat.not_lt_zero q))
  exact ⟨fun c => by rw [show h 89 5 = (N : Int) by rw [hN]; split <;> omega]; exact l0, fun c => by rw [show h 91 2 = (N : Int) by rw [hN]; split <;> omega]; exact l0⟩
theorem wc_85 {h : HP} (i : Inv h) : (((h 85 1) ≠ (-1) → (((h 36 0) ≤ 0 → AgP X 4 132 [vr 89, vi 2, vu, vu] (some (vi (-3))) h) ∧ (0 < (h 36 0) → (((h 8 8) < (h 85 2) → Wp X 3 29 63 [vr 6, vi 2, vr 85, vi (h 8 8), vi 0] [] h (AgP X 4 132 [vr 89, vi 2, vu, vu])) ∧ ((h 85 2) ≤ (h 8 8) → Wp X 3 29 63 [vr 6, vi 2, vr 85, vi (h 85 2), vi 0] [] h (AgP X 4 132 [vr 89, vi 2, vu, vu])))))) ∧ ((h 85 1) = (-1) → AgP X 4 132 [vr 89, vi 2, vu, vu] (some (vi (-11))) (upd2 h 6 10 1))) := by
  have sh := sh_of_85 i
  have L := i.ll
  have hL := i.lok
  have cv := i.cv
  have t := i.tok.1
  have s1 := sh.1
  have s2 := sh.2.1
  have s4 := sh.2.2.2.1
  have s5 := sh.2.2.2.2.1
  have g8 := i.g8
  rw [L.1]
  refine ⟨fun q1 => ?_, fun q1 => ⟨-11, rfl, T132_89_0 _ ?_⟩⟩
  · have hf : 0 ≤ h 90 2 := by omega
    have e2 := (sh.2.2.2.2.2 hf).1
    refine ⟨fun q2 => ⟨-3, rfl, T132_89_0 _ ⟨fun c => absurd c (by omega), fun _ => ⟨fun c => absurd c (by omega), fun _ => ⟨by omega, fun _ => (K78 i.tok i.sok rfl).mono fun v h2 _ f => ?_, fun c => absurd c (by omega)⟩⟩⟩⟩, fun q2 => ?_⟩
    · obtain ⟨rfl, e, F, _, _⟩ := f
      have F : Fr fM h h2 := F.mo fun _ _ c => fB_M c
      rw [if_neg (by omega)]
      exact S132_89_29 _ _ ⟨fun c => absurd rfl c, fun _ => ⟨rfl, Inv_q i e (i.2.fr F)⟩⟩
    · obtain ⟨N, hN⟩ : ∃ N : Nat, (N : Int) = if h 89 5 < h 91 2 then h 89 5 else h 91 2 := ⟨(if h 89 5 < h 91 2 then h 89 5 else h 91 2).toNat, by split <;> omega⟩
      have LP : ∀ (k n : Nat) (h1 : HP), n + k = N → Fr (fun a j => a = 86 ∧ 0 ≤ j ∧ j < (N : Int)) h h1 → (∀ q : Nat, q < n → h1 86 q = wvl h q) → Wp X 3 29 63 [vr 6, vi 2, vr 85, vi N, vi n] [] h1 (AgP X 4 132 [vr 89, vi 2, vu, vu]) := by
        intro k
        induction k with
        | zero =>
          intro n h1 hn F0 w
          exact S29_6_63c _ _ _ ⟨fun _ => ⟨N, rfl, wm_85 i hN hf q2 F0 (fun q hq => w q (by omega))⟩, fun c => absurd c (by omega)⟩
        | succ k ih =>
          intro n h1 hn F0 w
          have hnG : (n : Int) < h 89 5 := by
            have : (N : Int) ≤ h 89 5 := by rw [hN]; split <;> omega
            omega
          have hnS : (n : Int) < h 91 2 := by
            have : (N : Int) ≤ h 91 2 := by rw [hN]; split <;> omega
            omega
          have y8 : h1 8 8 = h 89 5 := (F0 _ _ (by omega)).trans g8
          have y2 : h1 85 2 = h 91 2 := (F0 _ _ (by omega)).trans e2
          have c := (cv.1 n (by omega) hnG).2.1
          have y34 : h1 34 (n : Int) = _ := (F0 _ _ (by omega)).trans c
          have L1 : LL0 (mq5 h) (ob (mq5 h)) h1 := (L.up q2).fr F0 (fun j => by omega)
          have mr : 0 ≤ mnV (VL h) n ∧ mnV (VL h) n ≤ 59940 := mnV_r hL.1 n
          have go : ∀ v : Int, v = wvl h n → Wp X 3 29 63 [vr 6, vi 2, vr 85, vi N, vi ((n : Int) + 1)] [] (upd2 h1 86 n v) (AgP X 4 132 [vr 89, vi 2, vu, vu]) := fun v ev => ih (n + 1) _ (by omega) (F0.up ⟨rfl, by omega, by omega⟩) (fun q hq => by
            rw [upd2_at]
            by_cases y : q = n
            · rw [if_pos (by omega), y, ev]
            · rw [if_neg (by omega)]; exact w q (by omega))
          clear ih
          refine S29_6_63c _ _ _ ⟨fun c => absurd c (by omega), fun _ => ⟨fun c => absurd c (by omega), fun _ => ⟨fun c => absurd c (by omega), fun _ => ⟨⟨by omega, by omega⟩, ?_⟩⟩⟩⟩
          rw [y34, y2, (bm_s (v := -1) (by omega)).1, (bm_s (v := -1) (by omega)).2]
          by_cases hc : cnp (VL h) n 5 = 0
          · rw [if_pos hc]
            have ev : -1 = wvl h n := by unfold wvl; rw [if_pos hc]
            exact ⟨fun q => absurd rfl q, fun _ => ⟨by unfold R32; omega, fun q => absurd q (by omega), fun _ => ⟨fun _ => ⟨fun _ => go _ ev, fun _ => go _ ev⟩, fun _ => go _ ev⟩⟩⟩
          · rw [if_neg hc]
            refine ⟨fun _ => (K172 hL L1 mr).mono fun v h2 _ f => ?_, fun q => absurd q (by omega)⟩
            obtain ⟨rfl, rfl⟩ := f
            have eq : qst (mq5 h) (mnV (VL h) n) = qsg (mq5 h) n := rfl
            have qr := qsg_r (q := mq5 h) (g := n)
            have ew : wvl h n = if qsg (mq5 h) n = 8 then 4 else qsg (mq5 h) n := by unfold wvl; rw [if_neg hc]
            rw [eq]
            refine S29_6_104c _ _ _ _ _ ?_
            rw [y2, (bm_s (v := 4) (by omega)).1, (bm_s (v := 4) (by omega)).2, (bm_s (v := qsg (mq5 h) n) (by omega)).1, (bm_s (v := qsg (mq5 h) n) (by omega)).2]
            refine ⟨fun q => ?_, fun q => ?_⟩
            · rw [if_neg q] at ew
              exact ⟨fun q => absurd q (by omega), fun _ => ⟨by unfold R32; omega, fun q => absurd q (by omega), fun _ => ⟨fun _ => ⟨fun _ => ⟨by omega, by unfold R32; omega, go _ ew.symm⟩, fun _ => ⟨by omega, by unfold R32; omega, go _ ew.symm⟩⟩, fun _ => ⟨by omega, by unfold R32; omega, go _ ew.symm⟩⟩⟩⟩
            · rw [if_pos q] at ew
              exact ⟨fun q => absurd q (by omega), fun _ => ⟨by unfold R32; omega, fun q => absurd q (by omega), fun _ => ⟨fun _ => ⟨fun _ => ⟨by omega, by unfold R32; omega, go _ ew.symm⟩, fun _ => ⟨by omega, by unfold R32; omega, go _ ew.symm⟩⟩, fun _ => ⟨by omega, by unfold R32; omega, go _ ew.symm⟩⟩⟩⟩
      have l0 := LP N 0 h (by omega) Fr.rf (fun q hq => absurd hq (Nat.not_lt_zero q))
      rw [g8, e2]
      exact ⟨fun c => by rw [show h 89 5 = (N : Int) by rw [hN]; split <;> omega]; exact l0, fun c => by rw [show h 91 2 = (N : Int) by rw [hN]; split <;> omega]; exact l0⟩
  · rw [upd2_ne (a := 6) (b := 90) (by decide)]
    exact ⟨fun c => absurd c (by omega), fun _ => ⟨fun c => absurd c (by omega), fun _ => ⟨by omega, fun c => absurd c (by omega), fun _ => ⟨rfl, fnd i (by omega)⟩⟩⟩⟩
theorem sh_i2_87 {h h2 : HP} (i : Inv h) (F : Fr (fun a j => fSh 87 3 a j ∨ fM a j) h h2) (hi : I_sh 87 3 h2) : Inv h2 := by
  obtain ⟨⟨i1, i2, i3, i4, i5, i6, i7, i8⟩, nt⟩ := i
  refine ⟨⟨i1.fr F (fun a j c => by unfold fSh fM scr at c; unfold rSet; omega), i2.fr F (fun a j c => by unfold fSh fM scr at c; unfold rTel; omega), i3.fr i2.1.1.2.1 F (fun a j c => by unfold fSh fM scr at c; unfold rDer; omega), i4.fr F (fun a j c => by unfold fSh fM scr at c; omega), ?_, i6.fr F (fun a j c => by unfold fSh fM scr at c; unfold rC; omega), i7.fr F (fun a j c => by unfold fSh fM scr at c; unfold rO; omega), i8.fr F (fun a j c => by unfold fSh fM scr at c; unfold rL; omega)⟩, nt.fr2 F (fun a j c => by unfold fSh fM scr at c; omega)⟩
  refine ⟨?_, ?_, ?_, ?_⟩
  · first | exact hi | exact i5.1.fr F (fun a j c => by unfold fSh fM scr at c; unfold rSh; omega)
  · first | exact hi | exact i5.2.1.fr F (fun a j c => by unfold fSh fM scr at c; unfold rSh; omega)
  · first | exact hi | exact i5.2.2.1.fr F (fun a j c => by unfold fSh fM scr at c; unfold rSh; omega)
  · first | exact hi | exact i5.2.2.2.fr F (fun a j c => by unfold fSh fM scr at c; unfold rSh; omega)
theorem wm_87 {h b1 : HP} (i : Inv h) {N : Nat} (hN : (N : Int) = if h 89 5 < h 91 3 then h 89 5 else h 91 3) (hf : 0 ≤ h 90 3) (hM : 0 < qM (mq5 h) (ob (mq5 h))) (F0 : Fr (fun a j => a = 88 ∧ 0 ≤ j ∧ j < N) h b1) (qv : ∀ q : Nat, q < N → b1 88 q = wvl h q) : Wp X 4 132 0 [vr 89, vi 3, vu, vu] [] b1 (fun r2 h2 => r2 = some (vi N) ∧ Inv h2) := by
  have sh := sh_of_87 i
  have t := i.tok.1
  have e5 : b1 89 5 = h 89 5 := F0 _ _ (by omega)
  have e90 : b1 90 3 = h 90 3 := F0 _ _ (by omega)
  have e91 : b1 91 3 = h 91 3 := F0 _ _ (by omega)
  have T1 : Tok b1 := (i.1.2.1.fr F0 (fun a j c => by unfold rTel; omega)).1
  have S1 : Sok b1 := (i.1.1.fr F0 (fun a j c => by unfold rSet; omega)).2.1
  have m1 : mq5 b1 = mq5 h := mq5.fr F0 (fun a j c => by unfold rDer; omega)
  have v1 : VL b1 = VL h := congrArg (fun q : LN => q.1) m1
  refine T132_89_0 _ ?_
  rw [e90]
  refine ⟨fun c => absurd c (by omega), fun _ => ⟨fun c => absurd c (by omega), fun _ => ⟨by omega, fun _ => (K78 T1 S1 rfl).mono fun v h2 _ f => ?_, fun c => absurd c (by omega)⟩⟩⟩
  obtain ⟨rfl, e2, F, vv, B⟩ := f
  rw [m1, if_pos hM]
  have F : Fr fM b1 h2 := F.mo fun _ _ c => fB_M c
  have g5 : h2 89 5 = h 89 5 := (congrFun (congrFun e2 89) 5).trans e5
  have g90 : h2 90 3 = h 90 3 := (congrFun (congrFun e2 90) 3).trans e90
  have g91 : h2 91 3 = h 91 3 := (congrFun (congrFun e2 91) 3).trans e91
  have g97 : h2 97 2 = (mq5 b1).2.2.2.2 := congrFun (congrFun e2 97) 2
  have hM1 : 0 < qM (mq5 b1) (ob (mq5 b1)) := by rw [m1]; exact hM
  have L : ∀ (k n : Nat) (h3 : HP), n + k = N → Fr (fun a j => a = 92 ∧ 60 * 3 ≤ j ∧ j < 60 * 3 + (N : Int)) h2 h3 → (∀ q : Nat, q < n → h3 92 (60 * 3 + q) = wvl h q) → Wp X 4 132 64 [vr 89, vi 3, vi N, vi n] [] h3 (fun r2 h2 => r2 = some (vi N) ∧ Inv h2) := by
    intro k
    induction k with
    | zero =>
      intro n h3 hn F3 w
      refine S132_89_64 _ _ _ ⟨fun _ => ⟨rfl, ?_⟩, fun c => absurd c (by omega)⟩
      have FF : Fr (fun a j => fSh 87 3 a j ∨ fM a j) h h3 := ((F0.mo fun a j c => by unfold fSh; omega).tr (F.mo fun a j c => .inr c)).tr (F3.mo fun a j c => by unfold fSh; omega)
      refine sh_i2_87 i FF ?_
      have x1 : h3 87 1 = h 87 1 := ((F3 _ _ (by omega)).trans (F _ _ (by unfold fM scr; omega))).trans (F0 _ _ (by omega))
      have x2 : h3 87 2 = h 87 2 := ((F3 _ _ (by omega)).trans (F _ _ (by unfold fM scr; omega))).trans (F0 _ _ (by omega))
      have x90 : h3 90 3 = h 90 3 := (F3 _ _ (by omega)).trans g90
      have x91 : h3 91 3 = h 91 3 := (F3 _ _ (by omega)).trans g91
      unfold I_sh
      rw [x1, x2, x90, x91]
      refine ⟨sh.1, sh.2.1, sh.2.2.1, sh.2.2.2.1, sh.2.2.2.2.1, fun c => ⟨(sh.2.2.2.2.2 c).1, fun q q0 q1 => ?_⟩⟩
      have xi : h3 (87 + 1) q = b1 88 q := (F3 _ _ (by omega)).trans (F _ _ (by unfold fM scr; omega))
      rw [xi]
      by_cases qn : q < N
      · obtain ⟨p, rfl⟩ : ∃ p : Nat, q = p := ⟨q.toNat, by omega⟩
        have := wvl_r (h := h) (i := (p : Int))
        rw [qv p (by omega), w p (by omega)]
        exact ⟨rfl, by unfold R32; omega⟩
      · have y1 : b1 88 q = h (87 + 1) q := F0 _ _ (by omega)
        have y2 : h3 92 (60 * 3 + q) = h 92 (60 * 3 + q) := ((F3 _ _ (by omega)).trans (F _ _ (by unfold fM scr; omega))).trans (F0 _ _ (by omega))
        rw [y1, y2]
        exact (sh.2.2.2.2.2 c).2 q q0 q1
    | succ k ih =>
      intro n h3 hn F3 w
      have hnG : (n : Int) < h 89 5 := by
        have : (N : Int) ≤ h 89 5 := by rw [hN]; split <;> omega
        omega
      have n60 : (N : Int) ≤ 60 := by
        have := sh.2.2.2.2.1
        rw [hN]; split <;> omega
      have vv3 : VV b1 h3 := vv.fr F3 (by omega) (fun a j a1 a2 => by omega)
      have B3 : BB (mq5 b1) (ob (mq5 b1)) h3 := ⟨(F3 _ _ (by omega)).trans B.1, (F3 _ _ (by omega)).trans B.2.1, (F3 _ _ (by omega)).trans B.2.2.1, (F3 _ _ (by omega)).trans B.2.2.2⟩
      have g97' : h3 97 2 = (mq5 b1).2.2.2.2 := (F3 _ _ (by omega)).trans g97
      have x90 : h3 90 3 = h 90 3 := (F3 _ _ (by omega)).trans g90
      have vg : h3 101 (n : Int) = if cnp (VL h) n 5 = 0 then 1 else 0 := by
        have := (vv3.2.1 n (by omega) (by omega)).2.2
        rw [v1] at this; exact this
      have fin : ∀ v : Int, v = wvl h n → Wp X 4 132 103 [vr 89, vi 3, vi N, vi n] [vi v, vi (h 90 3), vi (60 * 3 + (n : Int)), vr 92] h3 (fun r2 h2 => r2 = some (vi N) ∧ Inv h2) := by
        intro v ev
        have go : Wp X 4 132 64 [vr 89, vi 3, vi N, vi ((n : Int) + 1)] [] (upd2 h3 92 (60 * 3 + (n : Int)) v) (fun r2 h2 => r2 = some (vi N) ∧ Inv h2) := ih (n + 1) _ (by omega) (F3.up ⟨rfl, by omega, by omega⟩) (fun q hq => by
          rw [upd2_at]
          by_cases y : q = n
          · rw [if_pos (by omega), y, ev]
          · rw [if_neg (by omega)]; exact w q (by omega))
        have bb := bm_s (v := v) (by rw [ev]; exact wvl_r)
        refine S132_89_103 _ _ _ _ _ _ ?_
        rw [bb.1, bb.2]
        exact ⟨fun _ => ⟨fun _ => ⟨by omega, by unfold R32; omega, go⟩, fun _ => ⟨by omega, by unfold R32; omega, go⟩⟩, fun _ => ⟨by omega, by unfold R32; omega, go⟩⟩
      clear ih
      refine S132_89_64 _ _ _ ⟨fun c => absurd c (by omega), fun _ => ⟨by unfold R32; omega, by unfold R32; omega, by omega, by omega, ?_⟩⟩
      rw [vg, x90]
      by_cases hc : cnp (VL h) n 5 = 0
      · rw [if_pos hc]
        exact ⟨fun q => absurd q (by decide), fun _ => fin (-1) (by unfold wvl; rw [if_pos hc])⟩
      · rw [if_neg hc]
        refine ⟨fun _ => (K83s T1 S1 g97' vv3 B3 hM1 (g := n) ⟨by omega, by omega⟩).mono fun v h4 _ f => ?_, fun q => absurd rfl q⟩
        obtain ⟨rfl, rfl⟩ := f
        exact fin _ (by unfold wvl; rw [if_neg hc, m1])
  refine S132_89_29 _ _ ⟨fun _ => ⟨by omega, ?_⟩, fun c => absurd c (by decide)⟩
  rw [g5, g91]
  have l0 := L N 0 h2 (by omega) Fr.rf (fun q hq => absurd hq (Nat.not_lt_zero q))
  exact ⟨fun c => by rw [show h 89 5 = (N : Int) by rw [hN]; split <;> omega]; exact l0, fun c => by rw [show h 91 3 = (N : Int) by rw [hN]; split <;> omega]; exact l0⟩
theorem wc_87 {h : HP} (i : Inv h) : (((h 87 1) ≠ (-1) → (((h 36 0) ≤ 0 → AgP X 4 132 [vr 89, vi 3, vu, vu] (some (vi (-3))) h) ∧ (0 < (h 36 0) → (((h 8 8) < (h 87 2) → Wp X 3 29 63 [vr 6, vi 3, vr 87, vi (h 8 8), vi 0] [] h (AgP X 4 132 [vr 89, vi 3, vu, vu])) ∧ ((h 87 2) ≤ (h 8 8) → Wp X 3 29 63 [vr 6, vi 3, vr 87, vi (h 87 2), vi 0] [] h (AgP X 4 132 [vr 89, vi 3, vu, vu])))))) ∧ ((h 87 1) = (-1) → AgP X 4 132 [vr 89, vi 3, vu, vu] (some (vi (-11))) (upd2 h 6 10 1))) := by
  have sh := sh_of_87 i
  have L := i.ll
  have hL := i.lok
  have cv := i.cv
  have t := i.tok.1
  have s1 := sh.1
  have s2 := sh.2.1
  have s4 := sh.2.2.2.1
  have s5 := sh.2.2.2.2.1
  have g8 := i.g8
  rw [L.1]
  refine ⟨fun q1 => ?_, fun q1 => ⟨-11, rfl, T132_89_0 _ ?_⟩⟩
  · have hf : 0 ≤ h 90 3 := by omega
    have e2 := (sh.2.2.2.2.2 hf).1
    refine ⟨fun q2 => ⟨-3, rfl, T132_89_0 _ ⟨fun c => absurd c (by omega), fun _ => ⟨fun c => absurd c (by omega), fun _ => ⟨by omega, fun _ => (K78 i.tok i.sok rfl).mono fun v h2 _ f => ?_, fun c => absurd c (by omega)⟩⟩⟩⟩, fun q2 => ?_⟩
    · obtain ⟨rfl, e, F, _, _⟩ := f
      have F : Fr fM h h2 := F.mo fun _ _ c => fB_M c
      rw [if_neg (by omega)]
      exact S132_89_29 _ _ ⟨fun c => absurd rfl c, fun _ => ⟨rfl, Inv_q i e (i.2.fr F)⟩⟩
    · obtain ⟨N, hN⟩ : ∃ N : Nat, (N : Int) = if h 89 5 < h 91 3 then h 89 5 else h 91 3 := ⟨(if h 89 5 < h 91 3 then h 89 5 else h 91 3).toNat, by split <;> omega⟩
      have LP : ∀ (k n : Nat) (h1 : HP), n + k = N → Fr (fun a j => a = 88 ∧ 0 ≤ j ∧ j < (N : Int)) h h1 → (∀ q : Nat, q < n → h1 88 q = wvl h q) → Wp X 3 29 63 [vr 6, vi 3, vr 87, vi N, vi n] [] h1 (AgP X 4 132 [vr 89, vi 3, vu, vu]) := by
        intro k
        induction k with
        | zero =>
          intro n h1 hn F0 w
          exact S29_6_63d _ _ _ ⟨fun _ => ⟨N, rfl, wm_87 i hN hf q2 F0 (fun q hq => w q (by omega))⟩, fun c => absurd c (by omega)⟩
        | succ k ih =>
          intro n h1 hn F0 w
          have hnG : (n : Int) < h 89 5 := by
            have : (N : Int) ≤ h 89 5 := by rw [hN]; split <;> omega
            omega
          have hnS : (n : Int) < h 91 3 := by
            have : (N : Int) ≤ h 91 3 := by rw [hN]; split <;> omega
            omega
          have y8 : h1 8 8 = h 89 5 := (F0 _ _ (by omega)).trans g8
          have y2 : h1 87 2 = h 91 3 := (F0 _ _ (by omega)).trans e2
          have c := (cv.1 n (by omega) hnG).2.1
          have y34 : h1 34 (n : Int) = _ := (F0 _ _ (by omega)).trans c
          have L1 : LL0 (mq5 h) (ob (mq5 h)) h1 := (L.up q2).fr F0 (fun j => by omega)
          have mr : 0 ≤ mnV (VL h) n ∧ mnV (VL h) n ≤ 59940 := mnV_r hL.1 n
          have go : ∀ v : Int, v = wvl h n → Wp X 3 29 63 [vr 6, vi 3, vr 87, vi N, vi ((n : Int) + 1)] [] (upd2 h1 88 n v) (AgP X 4 132 [vr 89, vi 3, vu, vu]) := fun v ev => ih (n + 1) _ (by omega) (F0.up ⟨rfl, by omega, by omega⟩) (fun q hq => by
            rw [upd2_at]
            by_cases y : q = n
            · rw [if_pos (by omega), y, ev]
            · rw [if_neg (by omega)]; exact w q (by omega))
          clear ih
          refine S29_6_63d _ _ _ ⟨fun c => absurd c (by omega), fun _ => ⟨fun c => absurd c (by omega), fun _ => ⟨fun c => absurd c (by omega), fun _ => ⟨⟨by omega, by omega⟩, ?_⟩⟩⟩⟩
          rw [y34, y2, (bm_s (v := -1) (by omega)).1, (bm_s (v := -1) (by omega)).2]
          by_cases hc : cnp (VL h) n 5 = 0
          · rw [if_pos hc]
            have ev : -1 = wvl h n := by unfold wvl; rw [if_pos hc]
            exact ⟨fun q => absurd rfl q, fun _ => ⟨by unfold R32; omega, fun q => absurd q (by omega), fun _ => ⟨fun _ => ⟨fun _ => go _ ev, fun _ => go _ ev⟩, fun _ => go _ ev⟩⟩⟩
          · rw [if_neg hc]
            refine ⟨fun _ => (K172 hL L1 mr).mono fun v h2 _ f => ?_, fun q => absurd q (by omega)⟩
            obtain ⟨rfl, rfl⟩ := f
            have eq : qst (mq5 h) (mnV (VL h) n) = qsg (mq5 h) n := rfl
            have qr := qsg_r (q := mq5 h) (g := n)
            have ew : wvl h n = if qsg (mq5 h) n = 8 then 4 else qsg (mq5 h) n := by unfold wvl; rw [if_neg hc]
            rw [eq]
            refine S29_6_104d _ _ _ _ _ ?_
            rw [y2, (bm_s (v := 4) (by omega)).1, (bm_s (v := 4) (by omega)).2, (bm_s (v := qsg (mq5 h) n) (by omega)).1, (bm_s (v := qsg (mq5 h) n) (by omega)).2]
            refine ⟨fun q => ?_, fun q => ?_⟩
            · rw [if_neg q] at ew
              exact ⟨fun q => absurd q (by omega), fun _ => ⟨by unfold R32; omega, fun q => absurd q (by omega), fun _ => ⟨fun _ => ⟨fun _ => ⟨by omega, by unfold R32; omega, go _ ew.symm⟩, fun _ => ⟨by omega, by unfold R32; omega, go _ ew.symm⟩⟩, fun _ => ⟨by omega, by unfold R32; omega, go _ ew.symm⟩⟩⟩⟩
            · rw [if_pos q] at ew
              exact ⟨fun q => absurd q (by omega), fun _ => ⟨by unfold R32; omega, fun q => absurd q (by omega), fun _ => ⟨fun _ => ⟨fun _ => ⟨by omega, by unfold R32; omega, go _ ew.symm⟩, fun _ => ⟨by omega, by unfold R32; omega, go _ ew.symm⟩⟩, fun _ => ⟨by omega, by unfold R32; omega, go _ ew.symm⟩⟩⟩⟩
      have l0 := LP N 0 h (by omega) Fr.rf (fun q hq => absurd hq (Nat.not_lt_zero q))
      rw [g8, e2]
      exact ⟨fun c => by rw [show h 89 5 = (N : Int) by rw [hN]; split <;> omega]; exact l0, fun c => by rw [show h 91 3 = (N : Int) by rw [hN]; split <;> omega]; exact l0⟩
  · rw [upd2_ne (a := 6) (b := 90) (by decide)]
    exact ⟨fun c => absurd c (by omega), fun _ => ⟨fun c => absurd c (by omega), fun _ => ⟨by omega, fun c => absurd c (by omega), fun _ => ⟨rfl, fnd i (by omega)⟩⟩⟩⟩
theorem a29 (y1 : Int) : Ag X Inv 3 29 4 132 vi [vr 6, vi y1, vu, vu, vu] [vr 89, vi y1, vu, vu] := by
  intro h i
  have bad : ¬ (0 ≤ y1 ∧ y1 ≤ 3) → AgP X 4 132 [vr 89, vi y1, vu, vu] (some (vi (-2))) h := fun q => ⟨-2, rfl, T132_89_0 _ ⟨fun _ => ⟨rfl, i⟩, fun a1 => ⟨fun _ => ⟨rfl, i⟩, fun a2 => absurd ⟨a1, a2⟩ q⟩⟩⟩
  show Wp X 3 29 0 [vr 6, vi y1, vu, vu, vu] [] h (AgP X 4 132 [vr 89, vi y1, vu, vu])
  refine S29_6_0 _ ⟨fun q => bad (by omega), fun a1 => ⟨fun a2 => ⟨fun e => ?_, fun e => ?_, fun e => ?_, fun e => ?_⟩, fun q => bad (by omega)⟩⟩
  · subst e; exact wc_81 i
  · subst e; exact wc_83 i
  · subst e; exact wc_85 i
  · subst e; exact wc_87 i
end
