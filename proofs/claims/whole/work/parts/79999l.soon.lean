theorem sho_99 {w : Int → Int} {c : Int} : ∀ n : Nat, sho w c n ≤ 99
  | 0 => Int.le_refl 99
  | n + 1 => by
    have ih := sho_99 (w := w) (c := c) n
    show (if w (pos w n) = c ∧ kR w (pos w n) < sho w c n then kR w (pos w n) else sho w c n) ≤ 99
    split <;> omega
theorem zt_iff {w : Int → Int} {len : Int} : (sho w 114 (NRu w len) = 99 ∧ sho w 97 (NRu w len) = 99) ↔ zal w (NRu w len) = true := by
  have R := NRu_ok (w := w) (len := len)
  have a := sho_le (w := w) (c := 114) (x := 98) (by decide) (NRu w len)
  have c := sho_le (w := w) (c := 97) (x := 98) (by decide) (NRu w len)
  have a9 := sho_99 (w := w) (c := 114) (NRu w len)
  have c9 := sho_99 (w := w) (c := 97) (NRu w len)
  rw [zal_iff]
  constructor
  · rintro ⟨e1, e2⟩ i hi
    have o := R.2 i hi
    have f := flt_ok o.2 o.1
    have n1 : ¬ (w (pos w i) = 114 ∧ kR w (pos w i) ≤ 98) := fun q => by have := a.mpr ⟨i, hi, q.1, q.2⟩; omega
    have n2 : ¬ (w (pos w i) = 97 ∧ kR w (pos w i) ≤ 98) := fun q => by have := c.mpr ⟨i, hi, q.1, q.2⟩; omega
    omega
  · intro H
    have n1 : ¬ sho w 114 (NRu w len) ≤ 98 := fun q => by
      obtain ⟨i, hi, q1, -⟩ := a.mp q
      have := H i hi
      omega
    have n2 : ¬ sho w 97 (NRu w len) ≤ 98 := fun q => by
      obtain ⟨i, hi, q1, -⟩ := c.mp q
      have := H i hi
      omega
    omega
theorem f179_P {h h' : HP} (F : Fr f179 h h') : P h' = P h := F.toP fun a j c => by unfold f179 at c; unfold scr; omega
section
variable {X : Nat × (Int → Int)}
theorem zT_45 {b h : HP} (i : Inv b) (e : P h = P b) : (h 45 6 = -1 ∧ h 45 7 = 99 ∧ h 45 8 = 99 ↔ zTx (Wt b 0) (b 104 0)) ∧ (zTx (Wt b 0) (b 104 0) → ZR 49 h (Wt b 0) (NRu (Wt b 0) (b 104 0))) := by
  have I := i.1.2.2.2.1
  have tx : TXd 45 b (Wt b 0) (b 104 0) := by first | exact I.2.1.2.2 | exact I.2.2.2.2
  have e6 : h 45 6 = b 45 6 := congrFun (congrFun e 45) 6
  have e7 : h 45 7 = b 45 7 := congrFun (congrFun e 45) 7
  have e8 : h 45 8 = b 45 8 := congrFun (congrFun e 45) 8
  rw [e6, e7, e8, tx.1]
  refine ⟨⟨fun q => ?_, fun q => ?_⟩, fun q => ?_⟩
  · have p := (tx.2 q.1).2
    have p7 : b 45 7 = sho (Wt b 0) 114 (NRu (Wt b 0) (b 104 0)) := p.2.1
    have p8 : b 45 8 = sho (Wt b 0) 97 (NRu (Wt b 0) (b 104 0)) := p.2.2.1
    exact ⟨q.1, zt_iff.mp ⟨p7.symm.trans q.2.1, p8.symm.trans q.2.2⟩⟩
  · have p := (tx.2 q.1).2
    have p7 : b 45 7 = sho (Wt b 0) 114 (NRu (Wt b 0) (b 104 0)) := p.2.1
    have p8 : b 45 8 = sho (Wt b 0) 97 (NRu (Wt b 0) (b 104 0)) := p.2.2.1
    have s := zt_iff.mpr q.2
    exact ⟨q.1, p7.trans s.1, p8.trans s.2⟩
  · have zr : ZR 49 b (Wt b 0) (NRu (Wt b 0) (b 104 0)) := (tx.2 q.1).2.2.2.2
    refine ⟨?_, ?_, fun s hs => ?_, fun a ha => ?_⟩
    · rw [← zr.1]; exact congrFun (congrFun e 49) 3
    · rw [← zr.2.1]; exact congrFun (congrFun e 49) 4
    · rw [← (zr.2.2.1 s hs).1, ← (zr.2.2.1 s hs).2]; exact ⟨congrFun (congrFun e (49 + 1)) s, congrFun (congrFun e (49 + 2)) s⟩
    · rw [← zr.2.2.2 a ha]; exact congrFun (congrFun e (49 + 3)) a
theorem C179_45 {b h : HP} {d : Int} {m : Nat} (i : Inv b) (e : P h = P b) (nt : NT h) (hm : 1 ≤ m ∧ m ≤ 9) (hd : -7 ≤ d ∧ d ≤ 7) (hz : zTx (Wt b 0) (b 104 0)) : Wp X 3 179 0 [vr 69, vr 49, vi m, vi d, vu, vu] [] h (fun v h1 => v = none ∧ P h1 = P b ∧ NT h1 ∧ h1 69 4 = wjO b 0 d (m - 1) ∧ h1 69 5 = wuO b 0 d m ∧ h1 69 6 = 64 ^ m) := by
  have O := i.1.2.2.2.2.2.2.1
  have hs : ∀ c : Nat, c < 8 → h 70 c = sgO b c := fun c hc => (congrFun (congrFun e 70) c).trans (O.1 c (by omega) (by omega)).2
  exact (K179_49 (Zok_of hz) ((zT_45 i e).2 hz) nt hm.2 hd hs (sgO_ok i).1 (sgO_ok i).2).mono fun v h1 _ f => ⟨f.1, (f179_P f.2.1).trans e, f.2.2.1, f.2.2.2.1 (by omega), f.2.2.2.2.1, f.2.2.2.2.2⟩
theorem K37_45 {b h : HP} {d : Int} {m : Nat} (i : Inv b) (e : P h = P b) (nt : NT h) (hm : 1 ≤ m ∧ m ≤ 9) (hd : -7 ≤ d ∧ d ≤ 7) (hz : zTx (Wt b 0) (b 104 0)) : Wp X 4 37 0 [vr 6, vr 45, vi m, vi d, vu, vu, vu, vu] [] h (fun v h1 => v = some (vl (cst b 0 m d)) ∧ P h1 = P b ∧ NT h1 ∧ h1 69 6 = 64 ^ m) := by
  have r := cst_r i (t := 0) (d := d) (m := m) hm
  refine S37_6_45_0 _ _ ((C179_45 i e nt hm (by omega) hz).mono fun v h1 _ f => ?_)
  obtain ⟨rfl, e1, n1, -, u1, -⟩ := f
  refine S37_6_45_13 _ _ ((C179_45 i e1 n1 hm hd hz).mono fun v h2 _ f => ?_)
  obtain ⟨rfl, e2, n2, -, u2, o2⟩ := f
  have s := i.1.1.1
  have g8 : h2 7 8 = b 97 8 := (congrFun (congrFun e2 7) 8).trans (s 8 (by decide) (by decide))
  have g9 : h2 7 9 = b 97 9 := (congrFun (congrFun e2 7) 9).trans (s 9 (by decide) (by decide))
  refine S37_6_45_35 _ _ _ _ ?_
  rw [g8, g9, o2, u2, u1]
  exact ⟨by unfold R64; omega, by unfold R64; omega, by unfold R64; omega, by unfold R64; omega, rfl, e2, n2, rfl⟩
theorem K17_45 {b h : HP} {m d what how : Int} (i : Inv b) (e : P h = P b) (nt : NT h) (hm : 1 ≤ m ∧ m ≤ 9) (hd : -7 ≤ d ∧ d ≤ 7) : (((h 45 6) ≠ (-1) → some (vl (-9223372036854775805)) = some (vl (B_soon b 0 m d what how)) ∧ P h = P b ∧ NT h) ∧ ((h 45 6) = (-1) → (((h 45 7) ≠ 99 → some (vl (-9223372036854775805)) = some (vl (B_soon b 0 m d what how)) ∧ P h = P b ∧ NT h) ∧ ((h 45 7) = 99 → (((h 45 8) ≠ 99 → some (vl (-9223372036854775805)) = some (vl (B_soon b 0 m d what how)) ∧ P h = P b ∧ NT h) ∧ ((h 45 8) = 99 → Wp X 3 179 0 [vr 69, vr 49, vi m, vi d, vu, vu] [] h (fun v h' => Wp X 4 17 69 [vr 6, vi 0, vi m, vi d, vi what, vi how] (psh v []) h' (fun v h1 => v = some (vl (B_soon b 0 m d what how)) ∧ P h1 = P b ∧ NT h1)))))))) := by
  obtain ⟨k, rfl⟩ : ∃ k : Nat, m = k := ⟨m.toNat, by omega⟩
  have p9 := p64 k (by omega)
  have zi := (zT_45 i e).1
  have no : ¬ zTx (Wt b 0) (b 104 0) → some (vl (-9223372036854775805)) = some (vl (B_soon b 0 k d what how)) ∧ P h = P b ∧ NT h := fun q => ⟨by unfold B_soon; rw [if_neg q], e, nt⟩
  refine ⟨fun q => no fun c => q (zi.mpr c).1, fun q1 => ⟨fun q => no fun c => q (zi.mpr c).2.1, fun q2 => ⟨fun q => no fun c => q (zi.mpr c).2.2, fun q3 => ?_⟩⟩⟩
  have hz := zi.mp ⟨q1, q2, q3⟩
  have eB : B_soon b 0 k d what how = prt (if what = 0 then wuO b 0 d k else wjO b 0 d (k - 1)) (64 ^ k) how := if_pos hz
  rw [eB]
  refine (C179_45 i e nt (by omega) hd hz).mono fun v h1 _ f => ?_
  obtain ⟨rfl, e1, n1, w4, w5, w6⟩ := f
  have ru := wuO_le i (t := 0) (d := d) (m := k)
  have rj := wjO_r i (t := 0) (d := d) (k - 1)
  rw [show k - 1 + 1 = k by omega] at rj
  refine S17_6_69 _ _ _ _ _ ⟨fun q => ?_, fun q => ?_⟩
  · rw [w5, w6]
    refine (K45 (by omega) (by omega)).mono fun v h2 _ f => ?_
    obtain ⟨rfl, rfl⟩ := f
    exact S17_6_103 _ _ _ _ _ _ _ ⟨by rw [if_pos q], e1, n1⟩
  · rw [w4, w6]
    refine (K45 (by omega) (by omega)).mono fun v h2 _ f => ?_
    obtain ⟨rfl, rfl⟩ := f
    exact S17_6_103 _ _ _ _ _ _ _ ⟨by rw [if_neg q], e1, n1⟩
theorem zT_53 {b h : HP} (i : Inv b) (e : P h = P b) : (h 53 6 = -1 ∧ h 53 7 = 99 ∧ h 53 8 = 99 ↔ zTx (Wt b 1) (b 104 1)) ∧ (zTx (Wt b 1) (b 104 1) → ZR 57 h (Wt b 1) (NRu (Wt b 1) (b 104 1))) := by
  have I := i.1.2.2.2.1
  have tx : TXd 53 b (Wt b 1) (b 104 1) := by first | exact I.2.1.2.2 | exact I.2.2.2.2
  have e6 : h 53 6 = b 53 6 := congrFun (congrFun e 53) 6
  have e7 : h 53 7 = b 53 7 := congrFun (congrFun e 53) 7
  have e8 : h 53 8 = b 53 8 := congrFun (congrFun e 53) 8
  rw [e6, e7, e8, tx.1]
  refine ⟨⟨fun q => ?_, fun q => ?_⟩, fun q => ?_⟩
  · have p := (tx.2 q.1).2
    have p7 : b 53 7 = sho (Wt b 1) 114 (NRu (Wt b 1) (b 104 1)) := p.2.1
    have p8 : b 53 8 = sho (Wt b 1) 97 (NRu (Wt b 1) (b 104 1)) := p.2.2.1
    exact ⟨q.1, zt_iff.mp ⟨p7.symm.trans q.2.1, p8.symm.trans q.2.2⟩⟩
  · have p := (tx.2 q.1).2
    have p7 : b 53 7 = sho (Wt b 1) 114 (NRu (Wt b 1) (b 104 1)) := p.2.1
    have p8 : b 53 8 = sho (Wt b 1) 97 (NRu (Wt b 1) (b 104 1)) := p.2.2.1
    have s := zt_iff.mpr q.2
    exact ⟨q.1, p7.trans s.1, p8.trans s.2⟩
  · have zr : ZR 57 b (Wt b 1) (NRu (Wt b 1) (b 104 1)) := (tx.2 q.1).2.2.2.2
    refine ⟨?_, ?_, fun s hs => ?_, fun a ha => ?_⟩
    · rw [← zr.1]; exact congrFun (congrFun e 57) 3
    · rw [← zr.2.1]; exact congrFun (congrFun e 57) 4
    · rw [← (zr.2.2.1 s hs).1, ← (zr.2.2.1 s hs).2]; exact ⟨congrFun (congrFun e (57 + 1)) s, congrFun (congrFun e (57 + 2)) s⟩
    · rw [← zr.2.2.2 a ha]; exact congrFun (congrFun e (57 + 3)) a
theorem C179_53 {b h : HP} {d : Int} {m : Nat} (i : Inv b) (e : P h = P b) (nt : NT h) (hm : 1 ≤ m ∧ m ≤ 9) (hd : -7 ≤ d ∧ d ≤ 7) (hz : zTx (Wt b 1) (b 104 1)) : Wp X 3 179 0 [vr 69, vr 57, vi m, vi d, vu, vu] [] h (fun v h1 => v = none ∧ P h1 = P b ∧ NT h1 ∧ h1 69 4 = wjO b 1 d (m - 1) ∧ h1 69 5 = wuO b 1 d m ∧ h1 69 6 = 64 ^ m) := by
  have O := i.1.2.2.2.2.2.2.1
  have hs : ∀ c : Nat, c < 8 → h 70 c = sgO b c := fun c hc => (congrFun (congrFun e 70) c).trans (O.1 c (by omega) (by omega)).2
  exact (K179_57 (Zok_of hz) ((zT_53 i e).2 hz) nt hm.2 hd hs (sgO_ok i).1 (sgO_ok i).2).mono fun v h1 _ f => ⟨f.1, (f179_P f.2.1).trans e, f.2.2.1, f.2.2.2.1 (by omega), f.2.2.2.2.1, f.2.2.2.2.2⟩
theorem K37_53 {b h : HP} {d : Int} {m : Nat} (i : Inv b) (e : P h = P b) (nt : NT h) (hm : 1 ≤ m ∧ m ≤ 9) (hd : -7 ≤ d ∧ d ≤ 7) (hz : zTx (Wt b 1) (b 104 1)) : Wp X 4 37 0 [vr 6, vr 53, vi m, vi d, vu, vu, vu, vu] [] h (fun v h1 => v = some (vl (cst b 1 m d)) ∧ P h1 = P b ∧ NT h1 ∧ h1 69 6 = 64 ^ m) := by
  have r := cst_r i (t := 1) (d := d) (m := m) hm
  refine S37_6_53_0 _ _ ((C179_53 i e nt hm (by omega) hz).mono fun v h1 _ f => ?_)
  obtain ⟨rfl, e1, n1, -, u1, -⟩ := f
  refine S37_6_53_13 _ _ ((C179_53 i e1 n1 hm hd hz).mono fun v h2 _ f => ?_)
  obtain ⟨rfl, e2, n2, -, u2, o2⟩ := f
  have s := i.1.1.1
  have g8 : h2 7 8 = b 97 8 := (congrFun (congrFun e2 7) 8).trans (s 8 (by decide) (by decide))
  have g9 : h2 7 9 = b 97 9 := (congrFun (congrFun e2 7) 9).trans (s 9 (by decide) (by decide))
  refine S37_6_53_35 _ _ _ _ ?_
  rw [g8, g9, o2, u2, u1]
  exact ⟨by unfold R64; omega, by unfold R64; omega, by unfold R64; omega, by unfold R64; omega, rfl, e2, n2, rfl⟩
theorem K17_53 {b h : HP} {m d what how : Int} (i : Inv b) (e : P h = P b) (nt : NT h) (hm : 1 ≤ m ∧ m ≤ 9) (hd : -7 ≤ d ∧ d ≤ 7) : (((h 53 6) ≠ (-1) → some (vl (-9223372036854775805)) = some (vl (B_soon b 1 m d what how)) ∧ P h = P b ∧ NT h) ∧ ((h 53 6) = (-1) → (((h 53 7) ≠ 99 → some (vl (-9223372036854775805)) = some (vl (B_soon b 1 m d what how)) ∧ P h = P b ∧ NT h) ∧ ((h 53 7) = 99 → (((h 53 8) ≠ 99 → some (vl (-9223372036854775805)) = some (vl (B_soon b 1 m d what how)) ∧ P h = P b ∧ NT h) ∧ ((h 53 8) = 99 → Wp X 3 179 0 [vr 69, vr 57, vi m, vi d, vu, vu] [] h (fun v h' => Wp X 4 17 69 [vr 6, vi 1, vi m, vi d, vi what, vi how] (psh v []) h' (fun v h1 => v = some (vl (B_soon b 1 m d what how)) ∧ P h1 = P b ∧ NT h1)))))))) := by
  obtain ⟨k, rfl⟩ : ∃ k : Nat, m = k := ⟨m.toNat, by omega⟩
  have p9 := p64 k (by omega)
  have zi := (zT_53 i e).1
  have no : ¬ zTx (Wt b 1) (b 104 1) → some (vl (-9223372036854775805)) = some (vl (B_soon b 1 k d what how)) ∧ P h = P b ∧ NT h := fun q => ⟨by unfold B_soon; rw [if_neg q], e, nt⟩
  refine ⟨fun q => no fun c => q (zi.mpr c).1, fun q1 => ⟨fun q => no fun c => q (zi.mpr c).2.1, fun q2 => ⟨fun q => no fun c => q (zi.mpr c).2.2, fun q3 => ?_⟩⟩⟩
  have hz := zi.mp ⟨q1, q2, q3⟩
  have eB : B_soon b 1 k d what how = prt (if what = 0 then wuO b 1 d k else wjO b 1 d (k - 1)) (64 ^ k) how := if_pos hz
  rw [eB]
  refine (C179_53 i e nt (by omega) hd hz).mono fun v h1 _ f => ?_
  obtain ⟨rfl, e1, n1, w4, w5, w6⟩ := f
  have ru := wuO_le i (t := 1) (d := d) (m := k)
  have rj := wjO_r i (t := 1) (d := d) (k - 1)
  rw [show k - 1 + 1 = k by omega] at rj
  refine S17_6_69 _ _ _ _ _ ⟨fun q => ?_, fun q => ?_⟩
  · rw [w5, w6]
    refine (K45 (by omega) (by omega)).mono fun v h2 _ f => ?_
    obtain ⟨rfl, rfl⟩ := f
    exact S17_6_103 _ _ _ _ _ _ _ ⟨by rw [if_pos q], e1, n1⟩
  · rw [w4, w6]
    refine (K45 (by omega) (by omega)).mono fun v h2 _ f => ?_
    obtain ⟨rfl, rfl⟩ := f
    exact S17_6_103 _ _ _ _ _ _ _ ⟨by rw [if_neg q], e1, n1⟩
theorem C17 {b h : HP} {t m d what how : Int} (i : Inv b) (e : P h = P b) (nt : NT h) : Wp X 4 17 0 [vr 6, vi t, vi m, vi d, vi what, vi how] [] h (fun v h1 => v = some (vl (A_soon b t m d what how)) ∧ P h1 = P b ∧ NT h1) := by
  have bad : ¬ ((0 ≤ t ∧ t ≤ 1) ∧ (1 ≤ m ∧ m ≤ 9) ∧ (-7 ≤ d ∧ d ≤ 7) ∧ 0 ≤ how ∧ how ≤ 1) → some (vl (-9223372036854775806)) = some (vl (A_soon b t m d what how)) ∧ P h = P b ∧ NT h := fun q => ⟨by unfold A_soon; rw [if_neg q], e, nt⟩
  refine S17_6_0 _ _ _ _ _ ⟨fun q => bad (by omega), fun a1 => ⟨fun a2 => ⟨fun q => bad (by omega), fun a3 => ⟨fun a4 => ⟨fun q => bad (by omega), fun a5 => ⟨fun a6 => ⟨fun q => bad (by omega), fun a7 => ⟨fun a8 => ?_, fun q => bad (by omega)⟩⟩, fun q => bad (by omega)⟩⟩, fun q => bad (by omega)⟩⟩, fun q => bad (by omega)⟩⟩
  have eA : A_soon b t m d what how = B_soon b t m d what how := if_pos (by omega)
  rw [eA]
  refine ⟨fun q => ?_, fun q => ?_⟩
  · subst q; exact K17_45 i e nt (by omega) (by omega)
  · subst q; exact K17_53 i e nt (by omega) (by omega)
theorem a17 (y1 y2 y3 y4 y5 : Int) : Ag X Inv 4 17 6 119 vl [vr 6, vi y1, vi y2, vi y3, vi y4, vi y5] [vr 89, vi y1, vi y2, vi y3, vi y4, vi y5] :=
  ag_q (fun h => A_soon h y1 y2 y3 y4 y5) (fun h i => C17 i rfl i.2) (fun h h1 i e => M119 i e)
theorem C18 {b h : HP} {m d what : Int} (i : Inv b) (e : P h = P b) (nt : NT h) : Wp X 5 18 0 [vr 6, vi m, vi d, vi what, vu, vu, vu, vu] [] h (fun v h1 => v = some (vl (A_cheap b m d what)) ∧ P h1 = P b ∧ NT h1) := by
  have bad : ¬ ((1 ≤ m ∧ m ≤ 9) ∧ (-7 ≤ d ∧ d ≤ 7) ∧ 0 ≤ what ∧ what ≤ 2) → some (vl (-9223372036854775806)) = some (vl (A_cheap b m d what)) ∧ P h = P b ∧ NT h := fun q => ⟨by unfold A_cheap; rw [if_neg q], e, nt⟩
  refine S18_6_0 _ _ _ ⟨fun q => bad (by omega), fun a1 => ⟨fun a2 => ⟨fun q => bad (by omega), fun a3 => ⟨fun a4 => ⟨fun q => bad (by omega), fun a5 => ⟨fun a6 => ?_, fun q => bad (by omega)⟩⟩, fun q => bad (by omega)⟩⟩, fun q => bad (by omega)⟩⟩
  have eA : A_cheap b m d what = B_cheap b m d what := if_pos (by omega)
  rw [eA]
  obtain ⟨k, rfl⟩ : ∃ k : Nat, m = k := ⟨m.toNat, by omega⟩
  have p9 := p64 k (by omega)
  have zi := (zT_45 i e).1
  have zj := (zT_53 i e).1
  have no : ¬ (zTx (Wt b 0) (b 104 0) ∧ zTx (Wt b 1) (b 104 1)) → some (vl (-9223372036854775805)) = some (vl (B_cheap b k d what)) ∧ P h = P b ∧ NT h := fun q => ⟨by unfold B_cheap; rw [if_neg q], e, nt⟩
  refine ⟨fun q => no fun c => q (zi.mpr c.1).1, fun q1 => ⟨fun q => no fun c => q (zi.mpr c.1).2.1, fun q2 => ⟨fun q => no fun c => q (zi.mpr c.1).2.2, fun q3 => ⟨fun q => no fun c => q (zj.mpr c.2).1, fun q4 => ⟨fun q => no fun c => q (zj.mpr c.2).2.1, fun q5 => ⟨fun q => no fun c => q (zj.mpr c.2).2.2, fun q6 => ?_⟩⟩⟩⟩⟩⟩
  have z0 := zi.mp ⟨q1, q2, q3⟩
  have z1 := zj.mp ⟨q4, q5, q6⟩
  have eB : B_cheap b k d what = if what = 2 then (if cst b 1 k d < cst b 0 k d then 1 else 0) else prt (if cst b 1 k d < cst b 0 k d then cst b 1 k d else cst b 0 k d) (64 ^ k) what := if_pos ⟨z0, z1⟩
  have r0 := cst_r i (t := 0) (d := d) (m := k) (by omega)
  have r1 := cst_r i (t := 1) (d := d) (m := k) (by omega)
  rw [eB]
  refine (K37_45 i e nt (by omega) (by omega) z0).mono fun v h1 _ f => ?_
  obtain ⟨rfl, e1, n1, -⟩ := f
  refine S18_6_65 _ _ _ _ ((K37_53 i e1 n1 (by omega) (by omega) z1).mono fun v h2 _ f => ?_)
  obtain ⟨rfl, e2, n2, w6⟩ := f
  refine S18_6_79 _ _ _ _ _ ?_
  simp only [lcp_l, lcp_ge, lcp_g, lcp_le, lcp_e, lcp_n]
  refine ⟨fun c2 => ⟨fun c => ?_, fun c => ?_⟩, fun c2 => ⟨fun c => ⟨by rw [if_pos c2, if_neg (by omega)], e2, n2⟩, fun c => ⟨by rw [if_pos c2, if_pos (by omega)], e2, n2⟩⟩⟩
  · rw [w6]
    refine (K45 ⟨r1.2.2.2.1, r1.2.2.2.2⟩ (by omega)).mono fun v h3 _ f => ?_
    obtain ⟨rfl, rfl⟩ := f
    exact S18_6_118 _ _ _ _ _ _ _ ⟨by rw [if_neg c2, if_pos (by omega)], e2, n2⟩
  · rw [w6]
    refine (K45 ⟨r0.2.2.2.1, r0.2.2.2.2⟩ (by omega)).mono fun v h3 _ f => ?_
    obtain ⟨rfl, rfl⟩ := f
    exact S18_6_118 _ _ _ _ _ _ _ ⟨by rw [if_neg c2, if_neg (by omega)], e2, n2⟩
theorem a18 (y1 y2 y3 : Int) : Ag X Inv 5 18 6 121 vl [vr 6, vi y1, vi y2, vi y3, vu, vu, vu, vu] [vr 89, vi y1, vi y2, vi y3, vu, vu, vu, vu, vu] :=
  ag_q (fun h => A_cheap h y1 y2 y3) (fun h i => C18 i rfl i.2) (fun h h1 i e => M121 i e)
end
