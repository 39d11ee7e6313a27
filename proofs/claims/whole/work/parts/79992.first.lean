-- ===== over agrees =====
def ffi (u d : Nat → Int) (L : Int) : Nat → Nat → Nat
  | 0, k => k
  | f + 1, k => if L < u k ∨ L < d k then k else ffi u d L f (k + 1)
def bgn (w : Nat → Int) : Nat → Nat
  | 0 => 0
  | s + 1 => if w s = 0 then s + 1 else bgn w s
def nrc (kd gr : Int → Int) (g : Int) : Nat → Nat → Int → Int → Int
  | 0, _, _, b => b
  | f + 1, k, x, b => if gr k ≤ g ∧ x ≤ gr k then nrc kd gr g f (k + 1) (gr k) (kd k) else nrc kd gr g f (k + 1) x b
theorem bgn_le {w : Nat → Int} : ∀ s : Nat, bgn w s ≤ s
  | 0 => Nat.le_refl 0
  | s + 1 => by
    have := bgn_le (w := w) s
    show (if w s = 0 then s + 1 else bgn w s) ≤ s + 1
    split <;> omega
def olm (h : HP) : Int := h 97 5 * (60 * qM (mq5 h) (ob (mq5 h)))
def ovi (h : HP) : Nat := ffi (U_up h) (U_dn h) (olm h) (rwl (VL h) (gn h)).length 0
def ovs (h : HP) : Nat := bgn (if olm h < U_up h (ovi h) then U_up h else U_dn h) (ovi h)
def ovg (h : HP) : Int := (rwl (VL h) (gn h)).getD (ovs h) 0
def B_over (h : HP) (w : Int) : Int := if 0 < qM (mq5 h) (ob (mq5 h)) then (if ovi h < (rwl (VL h) (gn h)).length then (if w = 0 then (rwl (VL h) (gn h)).getD (ovi h) 0 else if w = 1 then (if olm h < U_up h (ovi h) then 1 else 2) else if w = 2 then ovg h else nrc (h 118) (h 119) (ovg h) (h 89 38).toNat 0 (-1) (-1)) else -1) else -3
def A_over (h : HP) (w : Int) : Int := if 0 ≤ w ∧ w ≤ 3 then B_over h w else -2
theorem olm_r {h : HP} (i : Inv h) : 0 ≤ olm h ∧ olm h ≤ 11998800 := by
  have bm : 0 ≤ qM (mq5 h) (ob (mq5 h)) ∧ qM (mq5 h) (ob (mq5 h)) ≤ 20 := bM_r
  have c := i.1.1.2.2.2.2.1
  have m := mulB c.1 c.2 (show 0 ≤ 60 * qM (mq5 h) (ob (mq5 h)) by omega) (show 60 * qM (mq5 h) (ob (mq5 h)) ≤ 1200 by omega)
  unfold olm
  omega
section
variable {X : Nat × (Int → Int)}
theorem K233 {h : HP} {u d : Nat → Int} {n : Nat} {L : Int} (e2 : h 74 2 = n) (hn : n ≤ 20) (e : ∀ k : Nat, k < n → h 75 k = u k ∧ h 76 k = d k) : Wp X 2 233 0 [vr 74, vi L, vu] [] h (fun v h' => v = some (vi (if ffi u d L n 0 < n then (ffi u d L n 0 : Int) else -1)) ∧ h' = h) := by
  have Lp : ∀ f k : Nat, k + f = n → Wp X 2 233 2 [vr 74, vi L, vi k] [] h (fun v h' => v = some (vi (if ffi u d L f k < n then (ffi u d L f k : Int) else -1)) ∧ h' = h) := by
    intro f
    induction f with
    | zero =>
      intro k hk
      refine S233_74_2 _ _ ⟨fun _ => ⟨?_, rfl⟩, fun c => absurd c (by omega)⟩
      show some (vi (-1)) = some (vi (if k < n then (k : Int) else -1))
      rw [if_neg (by omega)]
    | succ f ih =>
      intro k hk
      obtain ⟨e75, e76⟩ := e k (by omega)
      have er : ffi u d L (f + 1) k = if L < u k ∨ L < d k then k else ffi u d L f (k + 1) := rfl
      refine S233_74_2 _ _ ⟨fun c => absurd c (by omega), fun _ => ⟨fun c => absurd c (by omega), fun _ => ⟨⟨by omega, by omega⟩, ?_⟩⟩⟩
      rw [e75, e76]
      have hit : (L < u k ∨ L < d k) → (some (vi (k : Int)) = some (vi (if ffi u d L (f + 1) k < n then (ffi u d L (f + 1) k : Int) else -1)) ∧ h = h) := fun c => by
        rw [er, if_pos c, if_pos (by omega)]; exact ⟨rfl, rfl⟩
      refine ⟨fun a => ⟨fun b => ?_, fun b => hit (.inr b)⟩, fun a => hit (.inl a)⟩
      rw [er, if_neg (show ¬ (L < u k ∨ L < d k) by omega)]
      exact ih (k + 1) (by omega)
  exact S233_74_0 _ (Lp n 0 (by omega))
theorem K235 {h : HP} {w : Nat → Int} {n s : Nat} {x : Int} (e2 : h 74 2 = n) (hn : n ≤ 20) (hs : s < n) (hw : ∀ k : Nat, k < n → (if x ≤ 0 then h 76 k else h 75 k) = w k) : Wp X 1 235 0 [vr 74, vi s, vi x, vu] [] h (fun v h' => v = some (vi (bgn w s)) ∧ h' = h) := by
  have Lp : ∀ t : Nat, t ≤ s → ∀ z : aV, Wp X 1 235 2 [vr 74, z, vi x, vi t] [] h (fun v h' => v = some (vi (bgn w t)) ∧ h' = h) := by
    intro t
    induction t with
    | zero => intro _ z; exact S235_74_2 _ _ _ ⟨fun _ => ⟨rfl, rfl⟩, fun c => absurd c (by omega)⟩
    | succ t ih =>
      intro ht z
      have er : bgn w (t + 1) = if w t = 0 then t + 1 else bgn w t := rfl
      have e := hw t (by omega)
      have ih := ih (by omega) z
      have s1 : ((t + 1 : Nat) : Int) - 1 = (t : Int) := by omega
      have s2 : ((t + 1 : Nat) : Int) + (-1) = (t : Int) := by omega
      refine S235_74_2 _ _ _ ⟨fun c => absurd c (by omega), fun _ => ⟨by unfold R32; omega, ?_⟩⟩
      rw [s1, s2, er]
      refine ⟨fun _ => ⟨fun c => ⟨⟨by omega, by omega⟩, ?_⟩, fun c => ⟨⟨by omega, by omega⟩, ?_⟩⟩, fun c => absurd c (by omega)⟩
      · rw [if_pos c] at e
        rw [e]
        exact ⟨fun a => ⟨by rw [if_pos a], rfl⟩, fun a => by rw [if_neg a]; exact ih⟩
      · rw [if_neg (by omega)] at e
        rw [e]
        exact ⟨fun a => ⟨by rw [if_pos a], rfl⟩, fun a => by rw [if_neg a]; exact ih⟩
  exact S235_74_0 _ _ (Lp s (Nat.le_refl s) _)
theorem K139 {h : HP} {kd gr : Int → Int} {n : Nat} {g : Int} (e2 : h 77 2 = n) (hn : n ≤ 12) (e : ∀ k : Nat, k < n → h 78 k = kd k ∧ h 79 k = gr k) : Wp X 0 139 0 [vr 77, vi g, vu, vu, vu] [] h (fun v h' => v = some (vi (nrc kd gr g n 0 (-1) (-1))) ∧ h' = h) := by
  have Lp : ∀ f k : Nat, k + f = n → ∀ x b : Int, Wp X 0 139 7 [vr 77, vi g, vi x, vi b, vi k] [] h (fun v h' => v = some (vi (nrc kd gr g f k x b)) ∧ h' = h) := by
    intro f
    induction f with
    | zero => intro k hk x b; exact S139_77_7 _ _ _ _ ⟨fun _ => ⟨rfl, rfl⟩, fun c => absurd c (by omega)⟩
    | succ f ih =>
      intro k hk x b
      obtain ⟨e75, e76⟩ := e k (by omega)
      have er : nrc kd gr g (f + 1) k x b = if gr k ≤ g ∧ x ≤ gr k then nrc kd gr g f (k + 1) (gr k) (kd k) else nrc kd gr g f (k + 1) x b := rfl
      refine S139_77_7 _ _ _ _ ⟨fun c => absurd c (by omega), fun _ => ⟨⟨by omega, by omega⟩, ?_⟩⟩
      rw [e75, e76, er]
      refine ⟨fun a => ?_, fun a => ⟨fun c => ?_, fun c => ?_⟩⟩
      · rw [if_neg (by omega)]; exact ih (k + 1) (by omega) _ _
      · rw [if_neg (by omega)]; exact ih (k + 1) (by omega) _ _
      · rw [if_pos (by omega)]; exact ih (k + 1) (by omega) _ _
  exact S139_77_0 _ (Lp n 0 (by omega) _ _)
theorem K204 {h : HP} {kd gr : Int → Int} {n : Nat} {g s : Int} (e2 : h 89 38 = n) (hn : n ≤ 12) (e : ∀ k : Nat, k < n → h 118 k = kd k ∧ h 119 k = gr k) (hs : 0 ≤ s ∧ s < 20) (eg : h 102 s = g) {z1 z2 z4 z5 : aV} : Wp X 4 125 204 [vr 89, z1, z2, vu, z4, z5, vi s, vi (-1), vi (-1), vi 0] [] h (fun v h' => v = some (vi (nrc kd gr g n 0 (-1) (-1))) ∧ h' = h) := by
  have Lp : ∀ f k : Nat, k + f = n → ∀ x b : Int, Wp X 4 125 204 [vr 89, z1, z2, vu, z4, z5, vi s, vi b, vi x, vi k] [] h (fun v h' => v = some (vi (nrc kd gr g f k x b)) ∧ h' = h) := by
    intro f
    induction f with
    | zero => intro k hk x b; exact S125_89_204 _ _ _ _ _ _ _ _ ⟨fun _ => ⟨rfl, rfl⟩, fun c => absurd c (by omega)⟩
    | succ f ih =>
      intro k hk x b
      obtain ⟨e75, e76⟩ := e k (by omega)
      have er : nrc kd gr g (f + 1) k x b = if gr k ≤ g ∧ x ≤ gr k then nrc kd gr g f (k + 1) (gr k) (kd k) else nrc kd gr g f (k + 1) x b := rfl
      refine S125_89_204 _ _ _ _ _ _ _ _ ⟨fun c => absurd c (by omega), fun _ => ⟨⟨by omega, by omega⟩, hs, ?_⟩⟩
      rw [e75, e76, er, eg]
      refine ⟨fun a => ?_, fun a => ⟨fun c => ?_, fun c => ?_⟩⟩
      · rw [if_neg (by omega)]; exact ih (k + 1) (by omega) _ _
      · rw [if_neg (by omega)]; exact ih (k + 1) (by omega) _ _
      · rw [if_pos (by omega)]; exact ih (k + 1) (by omega) _ _
  exact Lp n 0 (by omega) _ _
theorem C20 {h : HP} (i : Inv h) (w : Int) : Wp X 3 20 0 [vr 6, vi w, vu, vu, vu, vu] [] h (fun r h1 => r = some (vi (A_over h w)) ∧ P h1 = P h ∧ NT h1) := by
  have L := i.ll
  have r := i.row
  have hl := r.2.1
  obtain ⟨ic0, ic1, ic2, ic3⟩ := i.1.2.2.2.2.2.1
  have lr := olm_r i
  have hA : A_over h w = if 0 ≤ w ∧ w ≤ 3 then B_over h w else -2 := rfl
  have hB : B_over h w = if 0 < qM (mq5 h) (ob (mq5 h)) then (if ovi h < (rwl (VL h) (gn h)).length then (if w = 0 then (rwl (VL h) (gn h)).getD (ovi h) 0 else if w = 1 then (if olm h < U_up h (ovi h) then 1 else 2) else if w = 2 then ovg h else nrc (h 118) (h 119) (ovg h) (h 89 38).toNat 0 (-1) (-1)) else -1) else -3 := rfl
  refine S20_6_0 _ ⟨fun q => ⟨by rw [hA, if_neg (by omega)], rfl, i.2⟩, fun w0 => ⟨fun w3 => ⟨fun q => ⟨?_, rfl, i.2⟩, fun q => ?_⟩, fun q => ⟨by rw [hA, if_neg (by omega)], rfl, i.2⟩⟩⟩
  · rw [L.1] at q
    rw [hA, if_pos ⟨w0, w3⟩, hB, if_neg (by omega)]
  rw [L.1] at q
  rw [if_pos ⟨w0, w3⟩] at hA
  rw [if_pos q] at hB
  refine (Crun i).mono fun v h1 _ f => ?_
  obtain ⟨rfl, F, e, f2, fu⟩ := f
  have nt : NT h1 := i.2.fr2 F (fun a j c => by unfold fSm at c; omega)
  have f36 : h1 36 0 = qM (mq5 h) (ob (mq5 h)) := (F _ _ (by unfold fSm; omega)).trans L.1
  have f7 : h1 7 5 = h 97 5 := (F _ _ (by unfold fSm; omega)).trans (i.1.1.1 5 (by omega) (by omega))
  have f37 : h1 37 6 = (rwl (VL h) (gn h)).length := (F _ _ (by unfold fSm; omega)).trans r.1
  have f38 : ∀ k : Nat, k < (rwl (VL h) (gn h)).length → h1 38 k = (rwl (VL h) (gn h)).getD k 0 := fun k hk => (F _ _ (by unfold fSm; omega)).trans (r.2.2 k hk).1
  have f77 : h1 77 2 = (h 89 38).toNat := by rw [F _ _ (by unfold fSm; omega), ic2]; omega
  have f78 : ∀ k : Nat, k < (h 89 38).toNat → h1 78 k = h 118 k ∧ h1 79 k = h 119 k := fun k hk => by
    rw [F _ _ (by unfold fSm; omega), F 79 _ (by unfold fSm; omega)]
    exact (ic3 k (by omega)).2.2.2.2
  have eo : h 97 5 * (60 * qM (mq5 h) (ob (mq5 h))) = olm h := rfl
  have bm : 0 ≤ qM (mq5 h) (ob (mq5 h)) ∧ qM (mq5 h) (ob (mq5 h)) ≤ 20 := bM_r
  refine S20_6_46 _ ?_
  rw [f36, f7, eo]
  refine ⟨by unfold R32; omega, by unfold R32; omega, (K233 f2 hl fu).mono fun v h2 _ f => ?_⟩
  obtain ⟨rfl, rfl⟩ := f
  have eoi : ffi (U_up h) (U_dn h) (olm h) (rwl (VL h) (gn h)).length 0 = ovi h := rfl
  rw [eoi]
  by_cases c : ovi h < (rwl (VL h) (gn h)).length
  · rw [if_pos c] at hB
    rw [if_pos c]
    have fo := fu _ c
    have fin : ∀ x : Int, ((x = 1 ∧ olm h < U_up h (ovi h)) ∨ (x = -1 ∧ ¬ olm h < U_up h (ovi h))) → Wp X 1 235 0 [vr 74, vi (ovi h), vi x, vu] [] h2 (fun v h' => Wp X 3 20 102 [vr 6, vi w, vi (olm h), vi (ovi h), vi x, vu] (psh v [vr 37]) h' (fun r h1 => r = some (vi (A_over h w)) ∧ P h1 = P h ∧ NT h1)) := by
      intro x hx
      refine (K235 (w := if olm h < U_up h (ovi h) then U_up h else U_dn h) f2 hl c (fun k hk => ?_)).mono fun v h3 _ f => ?_
      · rcases hx with ⟨rfl, q⟩ | ⟨rfl, q⟩
        · rw [if_neg (by omega), if_pos q]; exact (fu k hk).1
        · rw [if_pos (by omega), if_neg q]; exact (fu k hk).2
      · obtain ⟨rfl, rfl⟩ := f
        have eos : bgn (if olm h < U_up h (ovi h) then U_up h else U_dn h) (ovi h) = ovs h := rfl
        have le : ovs h ≤ ovi h := bgn_le _
        rw [eos]
        have g1 := f38 _ c
        have g2 := f38 (ovs h) (by omega)
        have eg : (rwl (VL h) (gn h)).getD (ovs h) 0 = ovg h := rfl
        rw [eg] at g2
        have R : ∀ {rr : Int}, rr = A_over h w → (some (vi rr) = some (vi (A_over h w)) ∧ P h3 = P h ∧ NT h3) := fun q => ⟨by rw [q], e, nt⟩
        refine S20_6_102 _ _ _ _ _ ⟨fun q => absurd q (by omega), fun _ => ⟨fun q => absurd q (by omega), fun _ => ⟨⟨by omega, by omega⟩, fun w0 => ⟨fun q => absurd q (by omega), fun _ => ⟨fun q => absurd q (by omega), fun _ => ⟨⟨by omega, by omega⟩, R ?_⟩⟩⟩, fun n0 => ⟨fun w1 => ⟨fun q3 => R ?_, fun q3 => R ?_⟩, fun n1 => ⟨fun w2 => R ?_, fun n2 => ?_⟩⟩⟩⟩⟩
        · rw [hA, hB, if_pos w0, g1]
        · rw [hA, hB, if_neg n0, if_pos w1]
          rcases hx with ⟨rfl, q⟩ | ⟨rfl, q⟩
          · rw [if_pos q]
          · omega
        · rw [hA, hB, if_neg n0, if_pos w1]
          rcases hx with ⟨rfl, q⟩ | ⟨rfl, q⟩
          · omega
          · rw [if_neg q]
        · rw [hA, hB, if_neg n0, if_neg n1, if_pos w2, g2]
        · rw [g2]
          refine (K139 f77 (by omega) f78).mono fun v h4 _ f => ?_
          obtain ⟨rfl, rfl⟩ := f
          refine S20_6_163 _ _ _ _ _ _ _ (R ?_)
          rw [hA, hB, if_neg n0, if_neg n1, if_neg n2]
    have hit : olm h < U_up h (ovi h) ∨ olm h < U_dn h (ovi h) := by
      have G : ∀ f k : Nat, k + f = (rwl (VL h) (gn h)).length → ffi (U_up h) (U_dn h) (olm h) f k < (rwl (VL h) (gn h)).length → (olm h < U_up h (ffi (U_up h) (U_dn h) (olm h) f k) ∨ olm h < U_dn h (ffi (U_up h) (U_dn h) (olm h) f k)) := by
        intro f
        induction f with
        | zero => intro k hk q; exact absurd (show k < (rwl (VL h) (gn h)).length from q) (by omega)
        | succ f ih =>
          intro k hk q
          have er : ffi (U_up h) (U_dn h) (olm h) (f + 1) k = if olm h < U_up h k ∨ olm h < U_dn h k then k else ffi (U_up h) (U_dn h) (olm h) f (k + 1) := rfl
          by_cases d : olm h < U_up h k ∨ olm h < U_dn h k
          · rw [er, if_pos d]; exact d
          · rw [er, if_neg d] at q ⊢; exact ih (k + 1) (by omega) q
      exact G _ 0 (by omega) c
    refine S20_6_69 _ _ _ ⟨fun _ => ⟨fun q => absurd q (by omega), fun _ => ⟨fun _ => ⟨⟨by omega, by omega⟩, fun a => ⟨fun b => absurd hit (by omega), fun b => fin (-1) (.inr ⟨rfl, by omega⟩)⟩, fun a => fin 1 (.inl ⟨rfl, by omega⟩)⟩, fun q => absurd q (by omega)⟩⟩, fun q => absurd q (by omega)⟩
  · rw [if_neg c] at hB
    rw [if_neg c]
    exact S20_6_69 _ _ _ ⟨fun q => absurd rfl q, fun _ => ⟨by rw [hA, hB], e, nt⟩⟩
theorem M125 {h h1 : HP} (i : Inv h) (e : P h1 = P h) {w : Int} (hw : 0 ≤ w ∧ w ≤ 3) : Wp X 4 125 0 [vr 89, vi w, vu, vu, vu, vu, vu, vu, vu, vu] [] h1 (fun r h2 => r = some (vi (B_over h w)) ∧ Fr fM h1 h2) := by
  have hL := i.lok
  have t := i.tok.1
  have gl : ((gn h : Nat) : Int) = h 89 5 := by unfold gn; omega
  have hl : (rwl (VL h) (gn h)).length ≤ 20 := Nat.le_trans (rwl_len (V := VL h) (gn h)) (by omega)
  obtain ⟨ic0, ic1, ic2, ic3⟩ := i.1.2.2.2.2.2.1
  have lr := olm_r i
  have hB : B_over h w = if 0 < qM (mq5 h) (ob (mq5 h)) then (if ovi h < (rwl (VL h) (gn h)).length then (if w = 0 then (rwl (VL h) (gn h)).getD (ovi h) 0 else if w = 1 then (if olm h < U_up h (ovi h) then 1 else 2) else if w = 2 then ovg h else nrc (h 118) (h 119) (ovg h) (h 89 38).toNat 0 (-1) (-1)) else -1) else -3 := rfl
  refine S125_89_0 _ ((K78 i.tok i.sok e).mono fun v h2 _ f => ?_)
  obtain ⟨rfl, e2, F, vv, B⟩ := f
  have F := F.mo fun _ _ c => fB_M c
  have bm : 0 ≤ qM (mq5 h) (ob (mq5 h)) ∧ qM (mq5 h) (ob (mq5 h)) ≤ 20 := bM_r
  refine S125_89_4 _ _ ?_
  by_cases c0 : 0 < qM (mq5 h) (ob (mq5 h))
  · rw [if_pos c0]
    rw [if_pos c0] at hB
    have e4 : h2 97 4 = h 97 4 := congrFun (congrFun e2 97) 4
    refine ⟨fun _ => (K122 i.tok vv (by omega) B.1 B.2.1 e4 bM_r (bS_r hL.1) i.1.1.2.2.2.1).mono fun v h3 _ f => ?_, fun q => absurd q (by decide)⟩
    obtain ⟨rfl, F3, fu⟩ := f
    have F3' : Fr fM h2 h3 := F3.mo fun a j c => by unfold fM scr; omega
    have F' := F.tr F3'
    have ar : Ar (h3 102) (rwl (VL h) (gn h)) := vv.2.2.1.cg (F3.row fun j => by omega)
    have f16 : h3 89 16 = (rwl (VL h) (gn h)).length := (F3 _ _ (by omega)).trans vv.2.2.2
    have f19 : h3 89 19 = qM (mq5 h) (ob (mq5 h)) := (F3 _ _ (by omega)).trans B.1
    have f97 : h3 97 5 = h 97 5 := (F3 _ _ (by omega)).trans (congrFun (congrFun e2 97) 5)
    have f38 : h3 89 38 = (h 89 38).toNat := by
      have x : h3 89 38 = h 89 38 := (F3 _ _ (by omega)).trans (congrFun (congrFun e2 89) 38)
      omega
    have f118 : ∀ k : Nat, k < (h 89 38).toNat → h3 118 k = h 118 k ∧ h3 119 k = h 119 k := fun k _ =>
      ⟨(F3 _ _ (by omega)).trans (congrFun (congrFun e2 118) _), (F3 _ _ (by omega)).trans (congrFun (congrFun e2 119) _)⟩
    have fu : ∀ k : Nat, k < (rwl (VL h) (gn h)).length → h3 116 k = U_up h k ∧ h3 117 k = U_dn h k := fu
    clear F3
    refine S125_89_14 _ ?_
    rw [f19, f97, show 60 * qM (mq5 h) (ob (mq5 h)) * h 97 5 = olm h from Int.mul_comm _ _]
    have R : ∀ {rr : Int}, rr = B_over h w → (some (vi rr) = some (vi (B_over h w)) ∧ Fr fM h1 h3) := fun q => ⟨by rw [q], F'⟩
    have back : ovi h < (rwl (VL h) (gn h)).length → ∀ x : Int, ((x = 1 ∧ olm h < U_up h (ovi h)) ∨ (x = 0 ∧ ¬ olm h < U_up h (ovi h))) → ∀ t : Nat, t ≤ ovi h → bgn (if olm h < U_up h (ovi h) then U_up h else U_dn h) t = ovs h → Wp X 4 125 108 [vr 89, vi w, vl (olm h), vu, vi (ovi h), vi x, vi t, vu, vu, vu] [] h3 (fun r h2 => r = some (vi (B_over h w)) ∧ Fr fM h1 h2) := by
      intro c x hx t
      rw [if_pos c] at hB
      have g1 := ar _ c
      have stop : ∀ t : Nat, t ≤ ovi h → ovs h = t → ((3 ≤ w → Wp X 4 125 204 [vr 89, vi w, vl (olm h), vu, vi (ovi h), vi x, vi t, vi (-1), vi (-1), vi 0] [] h3 (fun r h2 => r = some (vi (B_over h w)) ∧ Fr fM h1 h2)) ∧ (w < 3 → ((w ≠ 0 → ((w ≠ 1 → ((0 ≤ (t : Int) ∧ (t : Int) < 20) ∧ (some (vi (h3 102 t)) = some (vi (B_over h w)) ∧ Fr fM h1 h3))) ∧ (w = 1 → ((x = 0 → (some (vi 2) = some (vi (B_over h w)) ∧ Fr fM h1 h3)) ∧ (x ≠ 0 → (some (vi 1) = some (vi (B_over h w)) ∧ Fr fM h1 h3)))))) ∧ (w = 0 → ((0 ≤ (ovi h : Int) ∧ (ovi h : Int) < 20) ∧ (some (vi (h3 102 (ovi h))) = some (vi (B_over h w)) ∧ Fr fM h1 h3)))))) := by
        intro t ht et
        have g2 := ar t (by omega)
        have eg : (rwl (VL h) (gn h)).getD t 0 = ovg h := by rw [← et]; rfl
        rw [eg] at g2
        refine ⟨fun w3 => (K204 f38 (by omega) f118 ⟨by omega, by omega⟩ g2).mono fun v h4 _ f => ?_, fun w3 => ⟨fun n0 => ⟨fun n1 => ⟨⟨by omega, by omega⟩, R ?_⟩, fun w1 => ⟨fun q => R ?_, fun q => R ?_⟩⟩, fun w0 => ⟨⟨by omega, by omega⟩, R ?_⟩⟩⟩
        · obtain ⟨rfl, rfl⟩ := f
          refine R ?_
          rw [hB, if_neg (by omega), if_neg (by omega), if_neg (by omega)]
        · rw [hB, if_neg n0, if_neg n1, if_pos (by omega), g2]
        · rw [hB, if_neg n0, if_pos w1, if_neg (by omega)]
        · rw [hB, if_neg n0, if_pos w1, if_pos (by omega)]
        · rw [hB, if_pos w0, g1]
      induction t with
      | zero =>
        intro ht et
        exact T125_89_108 _ _ _ _ _ ⟨fun _ => stop 0 ht et.symm, fun q => absurd q (by omega)⟩
      | succ t ih =>
        intro ht et
        have er : ∀ W : Nat → Int, bgn W (t + 1) = if W t = 0 then t + 1 else bgn W t := fun _ => rfl
        have ih := ih (by omega)
        have st := stop (t + 1) ht
        have s1 : ((t + 1 : Nat) : Int) - 1 = (t : Int) := by omega
        have s2 : ((t + 1 : Nat) : Int) + (-1) = (t : Int) := by omega
        have ft := fu t (by omega)
        rw [er] at et
        refine T125_89_108 _ _ _ _ _ ⟨fun q => absurd q (by omega), fun _ => ⟨fun x0 => ⟨by unfold R32; omega, ⟨by omega, by omega⟩, ?_⟩, fun x1 => ⟨by unfold R32; omega, ⟨by omega, by omega⟩, ?_⟩⟩⟩
        · have nu : ¬ olm h < U_up h (ovi h) := by omega
          rw [if_neg nu] at et ih
          rw [s1, s2, ft.2]
          refine ⟨fun a => ?_, fun a => ih (by rw [if_neg a] at et; exact et)⟩
          rw [if_pos a] at et
          have st := st et.symm
          exact ⟨st.1, fun w3 => ⟨fun n0 => ⟨((st.2 w3).1 n0).1, fun w1 => (((st.2 w3).1 n0).2 w1).1 x0⟩, (st.2 w3).2⟩⟩
        · have nu : olm h < U_up h (ovi h) := by omega
          rw [if_pos nu] at et ih
          rw [s1, s2, ft.1]
          refine ⟨fun a => ?_, fun a => ih (by rw [if_neg a] at et; exact et)⟩
          rw [if_pos a] at et
          have st := st et.symm
          exact ⟨st.1, fun w3 => ⟨fun n0 => ⟨((st.2 w3).1 n0).1, fun w1 => (((st.2 w3).1 n0).2 w1).2 x1⟩, (st.2 w3).2⟩⟩
    have Lp : ∀ f k : Nat, k + f = (rwl (VL h) (gn h)).length → ffi (U_up h) (U_dn h) (olm h) f k = ovi h → Wp X 4 125 35 [vr 89, vi w, vl (olm h), vu, vi k, vu, vu, vu, vu, vu] [] h3 (fun r h2 => r = some (vi (B_over h w)) ∧ Fr fM h1 h2) := by
      intro f
      induction f with
      | zero =>
        intro k hk ek
        have ek : k = ovi h := ek
        exact T125_89_35 _ _ _ ⟨fun _ => ⟨fun q => absurd q (by omega), fun _ => R (by rw [hB, if_neg (by omega)])⟩, fun q => absurd q (by omega)⟩
      | succ f ih =>
        intro k hk ek
        have er : ffi (U_up h) (U_dn h) (olm h) (f + 1) k = if olm h < U_up h k ∨ olm h < U_dn h k then k else ffi (U_up h) (U_dn h) (olm h) f (k + 1) := rfl
        have fk := fu k (by omega)
        rw [er] at ek
        refine T125_89_35 _ _ _ ⟨fun q => absurd q (by omega), fun _ => ⟨⟨by omega, by omega⟩, ?_⟩⟩
        rw [fk.1, fk.2]
        refine ⟨fun a => ⟨fun _ => ?_, fun q => absurd q (by omega)⟩, fun a => ⟨fun b => ⟨fun _ => ?_, fun q => absurd q (by omega)⟩, fun b => ?_⟩⟩
        · rw [if_pos (show olm h < U_up h k ∨ olm h < U_dn h k from .inl a)] at ek
          rw [ek] at a ⊢
          exact back (by omega) 1 (.inl ⟨rfl, a⟩) (ovi h) (Nat.le_refl _) rfl
        · rw [if_pos (show olm h < U_up h k ∨ olm h < U_dn h k from .inr b)] at ek
          rw [ek] at a ⊢
          exact back (by omega) 0 (.inr ⟨rfl, by omega⟩) (ovi h) (Nat.le_refl _) rfl
        · rw [if_neg (by omega)] at ek
          exact ih (k + 1) (by omega) ek
    exact ⟨by unfold R64; omega, by unfold R64; omega, Lp _ 0 (by omega) rfl⟩
  · rw [if_neg c0]
    rw [if_neg c0] at hB
    exact ⟨fun q => absurd rfl q, fun _ => ⟨by rw [hB], F⟩⟩
theorem a20 (w : Int) : Ag X Inv 3 20 5 126 vi [vr 6, vi w, vu, vu, vu, vu] [vr 89, vi w] := by
  refine ag_q (fun h => A_over h w) (fun h i => C20 i w) (fun h h1 i e => ?_)
  have hA : A_over h w = if 0 ≤ w ∧ w ≤ 3 then B_over h w else -2 := rfl
  refine T126_89_0 _ ⟨fun q => ⟨by rw [hA, if_neg (by omega)], Fr.rf⟩, fun q1 => ⟨fun q => ⟨by rw [hA, if_neg (by omega)], Fr.rf⟩, fun q2 => (M125 i e ⟨q1, q2⟩).mono fun v h2 _ f => ?_⟩⟩
  obtain ⟨rfl, F⟩ := f
  refine S126_89_17 _ _ _ ⟨by rw [hA, if_pos (by omega)], F⟩
end
