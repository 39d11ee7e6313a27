-- ===== the class reads its texts =====
theorem fb_in {f : Int → Int} {len p : Int} (h : 0 ≤ p ∧ p < len) : fb f len p = f p := if_pos h
theorem fb_out {f : Int → Int} {len p : Int} (h : ¬ (0 ≤ p ∧ p < len)) : fb f len p = -1 := if_neg h
theorem fb_rng {f : Int → Int} {len p : Int} (h : fb f len p ≠ -1) : 0 ≤ p ∧ p < len := by
  by_cases c : 0 ≤ p ∧ p < len
  · exact c
  · exact absurd (fb_out c) h
theorem ZR.fr {Z : Nat} {h h' : HP} {w : Int → Int} {r : Nat} {C : Nat → Int → Prop} (z : ZR Z h w r) (F : Fr C h h') (n3 : ¬ C Z 3) (n4 : ¬ C Z 4) (n : ∀ a j, Z + 1 ≤ a → a ≤ Z + 3 → ¬ C a j) : ZR Z h' w r := by
  refine ⟨(F _ _ n3).trans z.1, (F _ _ n4).trans z.2.1, fun s hs => ?_, fun a ha => ?_⟩
  · rw [F _ _ (n (Z + 1) s (by omega) (by omega)), F _ _ (n (Z + 2) s (by omega) (by omega))]; exact z.2.2.1 s hs
  · rw [F _ _ (n (Z + 3) a (by omega) (by omega))]; exact z.2.2.2 a ha
theorem ZR_skip {Z : Nat} {h : HP} {w : Int → Int} {r : Nat} (hn : w (pos w r) ≠ 122) (z : ZR Z h w r) : ZR Z h w (r + 1) := by
  have hl : ∀ i : Nat, i < r + 1 → w (pos w i) = 122 → i < r := fun i hi e => Nat.lt_of_le_of_ne (by omega) (fun q => hn (by rw [← q]; exact e))
  have g1 : ∀ i, gst w r i = gst w (r + 1) i := by
    intro i; unfold gst
    by_cases q : i < r ∧ w (pos w i) = 122
    · rw [if_pos q, if_pos ⟨by omega, q.2⟩]
    · rw [if_neg q, if_neg (fun c => q ⟨hl i c.1 c.2, c.2⟩)]
  have g2 : ∀ s i, gab w r s i = gab w (r + 1) s i := by
    intro s i; unfold gab
    by_cases q : i < r ∧ w (pos w i) = 122 ∧ 4 ≤ s ∧ s ≤ 7 ∧ zR w (pos w i) ≤ (s : Int) - 4
    · rw [if_pos q, if_pos ⟨by omega, q.2⟩]
    · rw [if_neg q, if_neg (fun c => q ⟨hl i c.1 c.2.1, c.2⟩)]
  have g3 : ∀ s i, gbl w r s i = gbl w (r + 1) s i := by
    intro s i; unfold gbl
    by_cases q : i < r ∧ w (pos w i) = 122 ∧ s ≤ 3 ∧ zR w (pos w i) ≤ 3 - (s : Int)
    · rw [if_pos q, if_pos ⟨by omega, q.2⟩]
    · rw [if_neg q, if_neg (fun c => q ⟨hl i c.1 c.2.1, c.2⟩)]
  have g4 : ∀ a i, gsl w r a i = gsl w (r + 1) a i := by
    intro a i; unfold gsl
    by_cases q : i < r ∧ w (pos w i) = 122 ∧ (a : Int) < nR w (pos w i)
    · rw [if_pos q, if_pos ⟨by omega, q.2⟩]
    · rw [if_neg q, if_neg (fun c => q ⟨hl i c.1 c.2.1, c.2⟩)]
  refine ⟨z.1.trans (congrArg lg (pkH_cg fun i _ => g1 i)), z.2.1.trans ?_, fun s hs => ⟨(z.2.2.1 s hs).1.trans (congrArg lg (pkH_cg fun i _ => g2 s i)), (z.2.2.1 s hs).2.trans (congrArg lg (pkH_cg fun i _ => g3 s i))⟩, fun a ha => (z.2.2.2 a ha).trans (congrArg lg (pkH_cg fun i _ => g4 a i))⟩
  show wdt w r = if w (pos w r) = 122 ∧ wdt w r < nR w (pos w r) then _ else wdt w r
  rw [if_neg (fun c => hn c.1)]
/-- a rule is read at pos w r, or its fault is told -/
def RRd (T : Nat) (h : HP) (w : Int → Int) (r : Nat) (v : Option aV) (h' : HP) : Prop := ∃ s0, v = some (vi s0) ∧ Fr (fTx T) h h' ∧ ((flt w (pos w r) ≠ -1 ∧ h' T 6 = flt w (pos w r)) ∨ (flt w (pos w r) = -1 ∧ s0 = eR w (pos w r) ∧ h' T 6 = -1 ∧ PS T h' w (r + 1)))
/-- what a text's cells hold of its rules -/
def TXd (T : Nat) (h : HP) (w : Int → Int) (len : Int) : Prop := h T 6 = FA w len ∧ (FA w len = -1 → h T 5 = NRu w len ∧ PS T h w (NRu w len))
theorem rr_f {T : Nat} {h : HP} {w : Int → Int} {r : Nat} {s0 p : Int} (e : flt w (pos w r) = p) (hp : 0 ≤ p) : RRd T h w r (some (vi s0)) (upd2 h T 6 p) :=
  ⟨s0, rfl, Fr.rf.up (.inl ⟨rfl, by decide, by decide⟩), .inl ⟨by omega, by rw [upd2_s, e]⟩⟩
section
variable {X : Nat × (Int → Int)}
theorem rr_run_45 {h : HP} {w : Int → Int} {r : Nat} {s0 v7 v8 : Int} {f : Int} (e : flt w (pos w r) = -1) (hs : s0 = eR w (pos w r)) (hn : w (pos w r) ≠ 122) (e6 : h 45 6 = -1) (p : PS 45 h w r) (hf : f = 7 ∧ v7 = sho w 114 (r + 1) ∧ sho w 97 (r + 1) = sho w 97 r ∨ f = 8 ∧ v7 = sho w 97 (r + 1) ∧ sho w 114 (r + 1) = sho w 114 r) (e8 : v8 = kR w (pos w r)) : RRd 45 h w r (some (vi s0)) (upd2 (upd2 (upd2 h 45 f v7) 47 r (w (pos w r))) 48 r v8) := by
  have F : Fr (fun a j => (a = 45 ∧ j = f) ∨ a = 47 ∨ a = 48) h (upd2 (upd2 (upd2 h 45 f v7) 47 r (w (pos w r))) 48 r v8) := ((Fr.rf.up (.inl ⟨rfl, rfl⟩)).up (.inr (.inl rfl))).up (.inr (.inr rfl))
  refine ⟨s0, rfl, F.mo (fun a j c => by unfold fTx; omega), .inr ⟨e, hs, ?_, fun i hi => ?_, ?_, ?_, ZR_skip hn (p.2.2.2.fr F (by omega) (by omega) (fun a j a1 a2 => by omega))⟩⟩
  · rw [F _ _ (by omega)]; exact e6
  · rw [upd2_ne (a := 48) (b := 47) (by decide), upd2_at, upd2_at]
    by_cases q : i = r
    · rw [if_pos (by omega), if_pos (by omega), q, e8]; exact ⟨rfl, rfl⟩
    · rw [if_neg (by omega), if_neg (by omega), upd2_ne (by decide), upd2_ne (by decide), upd2_ne (by decide)]; exact p.1 i (by omega)
  · rw [upd2_ne (by decide), upd2_ne (by decide)]
    rcases hf with q | q
    · rw [q.1, upd2_s, q.2.1]
    · rw [q.1, upd2_o (by decide), p.2.1, q.2.2]
  · rw [upd2_ne (by decide), upd2_ne (by decide)]
    rcases hf with q | q
    · rw [q.1, upd2_o (by decide), p.2.2.1, q.2.2]
    · rw [q.1, upd2_s, q.2.1]
theorem K213_45 {h : HP} {w : Int → Int} {len : Int} {r : Nat} {x3 : Int} (hw : w = fb (h 46) len) (hl : h 45 4 = len) (hl2 : len ≤ 50) (hb : ∀ p : Int, 0 ≤ p → p < len → 0 ≤ h 46 p ∧ h 46 p ≤ 255) (hr : r < 8) (ha : 0 ≤ pos w r) (hc : w (pos w r) = 114 ∧ x3 = 2 ∨ w (pos w r) = 97 ∧ x3 = 3) (e6 : h 45 6 = -1) (p : PS 45 h w r) : Wp X 2 213 0 [vr 45, vi r, vi (pos w r), vi x3, vu] [] h (RRd 45 h w r) := by
  have ar : 0 ≤ pos w r ∧ pos w r < len := fb_rng (f := h 46) (by rw [← hw]; omega)
  have ea : h 46 (pos w r) = w (pos w r) := by rw [hw] at ar ⊢; exact (fb_in ar).symm
  have hn : w (pos w r) ≠ 122 := by omega
  have eE : eR w (pos w r) = pos w r + 2 := if_neg hn
  have s7 : sho w 114 (r + 1) = if w (pos w r) = 114 ∧ kR w (pos w r) < sho w 114 r then kR w (pos w r) else sho w 114 r := rfl
  have s8 : sho w 97 (r + 1) = if w (pos w r) = 97 ∧ kR w (pos w r) < sho w 97 r then kR w (pos w r) else sho w 97 r := rfl
  have p7 := p.2.1
  have p8 := p.2.2.1
  have kd : kR w (pos w r) = w (pos w r + 1) - 48 := rfl
  by_cases c1 : pos w r + 1 < len
  · have ek : h 46 (pos w r + 1) = w (pos w r + 1) := by rw [hw] at c1 ar ⊢; exact (fb_in ⟨by omega, c1⟩).symm
    have hb1 := hb (pos w r + 1) (by omega) c1
    refine S213_45_0 _ _ _ ?_
    rw [hl, ea, ek, ← kd, p7, p8]
    refine ⟨by unfold R32; omega, fun q => absurd q (by omega), fun _ => ⟨fun q => absurd q (by omega), fun _ => ⟨⟨by omega, by omega⟩, by unfold R32; omega, fun q => rr_f (flt_k (by omega)) (by omega), fun q => ⟨fun q2 => ⟨fun q3 => ⟨fun q4 => absurd q4 (by omega), fun q4 => ⟨fun q5 => absurd q5 (by omega), fun q5 => ⟨fun q6 => ⟨fun q7 => ⟨fun q8 => absurd q8 (by omega), fun q8 => ⟨fun q9 => absurd q9 (by omega), fun q9 => ?_⟩⟩, fun q7 => ⟨fun q8 => absurd q8 (by omega), fun q8 => ⟨fun q9 => absurd q9 (by omega), fun q9 => ?_⟩⟩⟩, fun q6 => ⟨fun q7 => ⟨fun q8 => absurd q8 (by omega), fun q8 => ⟨fun q9 => absurd q9 (by omega), fun q9 => ?_⟩⟩, fun q7 => ⟨fun q8 => absurd q8 (by omega), fun q8 => ⟨fun q9 => absurd q9 (by omega), fun q9 => ?_⟩⟩⟩⟩⟩⟩, fun q3 => absurd q3 (by omega)⟩, fun q2 => rr_f (flt_k (by omega)) (by omega)⟩⟩⟩⟩
    · exact rr_run_45 (flt_r (by omega)) eE.symm hn e6 p (.inr ⟨rfl, by rw [s8, if_pos ⟨by omega, q7⟩], by rw [s7, if_neg (fun q => q6 q.1)]⟩) rfl
    · exact rr_run_45 (flt_r (by omega)) eE.symm hn e6 p (.inr ⟨rfl, by rw [s8, if_neg (fun q => by omega)], by rw [s7, if_neg (fun q => q6 q.1)]⟩) rfl
    · exact rr_run_45 (flt_r (by omega)) eE.symm hn e6 p (.inl ⟨rfl, by rw [s7, if_pos ⟨by omega, q7⟩], by rw [s8, if_neg (fun q => by omega)]⟩) rfl
    · exact rr_run_45 (flt_r (by omega)) eE.symm hn e6 p (.inl ⟨rfl, by rw [s7, if_neg (fun q => by omega)], by rw [s8, if_neg (fun q => by omega)]⟩) rfl
  · have ek : w (pos w r + 1) = -1 := by rw [hw] at c1 ⊢; exact fb_out (fun q => c1 q.2)
    have fl : flt w (pos w r) = pos w r + 1 := flt_k (by rw [kd, ek]; omega)
    refine S213_45_0 _ _ _ ?_
    rw [hl]
    exact ⟨by unfold R32; omega, fun q => absurd q (by omega), fun _ => ⟨fun _ => ⟨fun _ => rr_f fl (by omega), fun q => absurd q (by omega)⟩, fun q => absurd q (by omega)⟩⟩
theorem K214_45 {h : HP} {w : Int → Int} {len : Int} {r : Nat} (hw : w = fb (h 46) len) (hl : h 45 4 = len) (hl2 : len ≤ 50) (hb : ∀ p : Int, 0 ≤ p → p < len → 0 ≤ h 46 p ∧ h 46 p ≤ 255) (hr : r < 8) (ha : 0 ≤ pos w r) (hk : ∀ i : Nat, i < r → w (pos w i) = 122 → 1 ≤ kR w (pos w i)) (hc : w (pos w r) = 122) (e6 : h 45 6 = -1) (p : PS 45 h w r) : Wp X 2 214 0 [vr 45, vi r, vi (pos w r), vu, vu, vu] [] h (RRd 45 h w r) := by
  have ar : 0 ≤ pos w r ∧ pos w r < len := fb_rng (f := h 46) (by rw [← hw]; omega)
  have kd : kR w (pos w r) = w (pos w r + 1) - 48 := rfl
  have nd : nR w (pos w r) = w (pos w r + 3) - 48 := if_pos hc
  have zd : zR w (pos w r) = w (pos w r + 5) - 48 := if_pos hc
  have eE : eR w (pos w r) = pos w r + 6 := if_pos hc
  have at_ : ∀ d : Int, 0 ≤ d → (pos w r + d < len ∧ h 46 (pos w r + d) = w (pos w r + d) ∧ 0 ≤ w (pos w r + d) ∧ w (pos w r + d) ≤ 255) ∨ (len ≤ pos w r + d ∧ w (pos w r + d) = -1) := by
    intro d hd
    by_cases c : pos w r + d < len
    · left
      have e : h 46 (pos w r + d) = w (pos w r + d) := by
        rw [hw] at c ar ⊢; exact (fb_in ⟨by omega, c⟩).symm
      have := hb (pos w r + d) (by omega) c
      exact ⟨c, e, by omega, by omega⟩
    · right
      refine ⟨by omega, ?_⟩
      rw [hw] at c ⊢
      exact fb_out (fun q => c q.2)
  have fz : 1 ≤ kR w (pos w r) ∧ kR w (pos w r) ≤ 5 → _ := fun q => flt_z hc q
  refine S214_45_0 _ _ ?_
  rw [hl]
  refine ⟨by unfold R32; omega, fun q => absurd q (by omega), fun _ => ?_⟩
  rcases at_ 1 (by omega) with ⟨b1, d1, f1⟩ | ⟨b1, d1⟩
  case inr => exact ⟨fun _ => rr_f (flt_k (by omega)) (by omega), fun q => absurd q (by omega)⟩
  refine ⟨fun q => absurd q (by omega), fun _ => ⟨⟨by omega, by omega⟩, ?_⟩⟩
  rw [d1, ← kd]
  refine ⟨by unfold R32; omega, fun q => rr_f (flt_k (by omega)) (by omega), fun k1 => ⟨fun k5 => ?_, fun q => rr_f (flt_k (by omega)) (by omega)⟩⟩
  have fz := fz ⟨k1, k5⟩
  rcases at_ 2 (by omega) with ⟨b2, d2, f2⟩ | ⟨b2, d2⟩
  case inr => exact ⟨fun _ => rr_f (by rw [fz, if_pos (by omega)]) (by omega), fun q => absurd q (by omega)⟩
  refine ⟨fun q => absurd q (by omega), fun _ => ⟨⟨by omega, by omega⟩, ?_⟩⟩
  rw [d2]
  refine ⟨fun c47 => ?_, fun q => rr_f (by rw [fz, if_pos q]) (by omega)⟩
  rw [if_neg (fun q => q c47)] at fz
  rcases at_ 3 (by omega) with ⟨b3, d3, f3⟩ | ⟨b3, d3⟩
  case inr => exact ⟨fun _ => rr_f (by rw [fz, if_pos (by omega)]) (by omega), fun q => absurd q (by omega)⟩
  refine ⟨fun q => absurd q (by omega), fun _ => ⟨⟨by omega, by omega⟩, ?_⟩⟩
  rw [d3, ← nd]
  refine ⟨by unfold R32; omega, fun q => rr_f (by rw [fz, if_pos (by omega)]) (by omega), fun n1 => ⟨fun n5 => ⟨fun _ => ?_, fun q => absurd q (by omega)⟩, fun q => rr_f (by rw [fz, if_pos (by omega)]) (by omega)⟩⟩
  rw [if_neg (by omega)] at fz
  rcases at_ 4 (by omega) with ⟨b4, d4, f4⟩ | ⟨b4, d4⟩
  case inr => exact ⟨fun _ => rr_f (by rw [fz, if_pos (by omega)]) (by omega), fun q => absurd q (by omega)⟩
  refine ⟨fun q => absurd q (by omega), fun _ => ⟨⟨by omega, by omega⟩, ?_⟩⟩
  rw [d4]
  refine ⟨fun c62 => ?_, fun q => rr_f (by rw [fz, if_pos q]) (by omega)⟩
  rw [if_neg (fun q => q c62)] at fz
  rcases at_ 5 (by omega) with ⟨b5, d5, f5⟩ | ⟨b5, d5⟩
  case inr => exact ⟨fun _ => rr_f (by rw [fz, if_pos (by omega)]) (by omega), fun q => absurd q (by omega)⟩
  refine ⟨fun q => absurd q (by omega), fun _ => ⟨⟨by omega, by omega⟩, ?_⟩⟩
  rw [d5, ← zd]
  refine ⟨by unfold R32; omega, fun q => rr_f (by rw [fz, if_pos (by omega)]) (by omega), fun z0 => ⟨fun z3 => ?_, fun q => rr_f (by rw [fz, if_pos (by omega)]) (by omega)⟩⟩
  rw [if_neg (by omega)] at fz
  refine (K245_49 hr (fun i hi q => ?_) hc k5 ⟨by omega, n5⟩ ⟨z0, z3⟩ p.2.2.2).mono fun v h1 _ e => ?_
  · by_cases e : i = r
    · rw [e]; exact k1
    · exact hk i (by omega) q
  obtain ⟨rfl, F1, Z1⟩ := e
  have F : Fr (fTx 45) h (upd2 (upd2 h1 47 r 122) 48 r (kR w (pos w r))) := ((F1.mo fun a j c => by unfold fZ at c; unfold fTx; omega).up (.inr (.inl (by decide)))).up (.inr (.inl (by decide)))
  have F2 : Fr (fun a j => a = 47 ∨ a = 48) h1 (upd2 (upd2 h1 47 r 122) 48 r (kR w (pos w r))) := (Fr.rf.up (.inl rfl)).up (.inr rfl)
  refine S214_45_126 _ _ _ _ _ ⟨fun q => absurd q (by omega), fun _ => ⟨fun q => absurd q (by omega), fun _ => ⟨by unfold R32; omega, pos w r + 6, rfl, F, .inr ⟨fz, eE.symm, ?_, fun i hi => ?_, ?_, ?_, Z1.fr F2 (by omega) (by omega) (fun a j a1 a2 => by omega)⟩⟩⟩⟩
  · rw [upd2_ne (by decide), upd2_ne (by decide), F1 _ _ (by unfold fZ; omega)]; exact e6
  · rw [upd2_ne (a := 48) (b := 47) (by decide), upd2_at, upd2_at]
    by_cases q : i = r
    · rw [if_pos (by omega), if_pos (by omega), q, hc]; exact ⟨rfl, rfl⟩
    · rw [if_neg (by omega), if_neg (by omega), upd2_ne (by decide), F1 _ _ (by unfold fZ; omega), F1 _ _ (by unfold fZ; omega)]; exact p.1 i (by omega)
  · rw [upd2_ne (by decide), upd2_ne (by decide), F1 _ _ (by unfold fZ; omega), p.2.1]
    show _ = if w (pos w r) = 114 ∧ _ then _ else _
    rw [if_neg (fun q => by omega)]
  · rw [upd2_ne (by decide), upd2_ne (by decide), F1 _ _ (by unfold fZ; omega), p.2.2.1]
    show _ = if w (pos w r) = 97 ∧ _ then _ else _
    rw [if_neg (fun q => by omega)]
theorem K212_45 {h : HP} {w : Int → Int} {len : Int} {r : Nat} (hw : w = fb (h 46) len) (hl : h 45 4 = len) (hl2 : len ≤ 50) (hb : ∀ p : Int, 0 ≤ p → p < len → 0 ≤ h 46 p ∧ h 46 p ≤ 255) (hr : r < 8) (ha : 0 ≤ pos w r) (hk : ∀ i : Nat, i < r → w (pos w i) = 122 → 1 ≤ kR w (pos w i)) (e6 : h 45 6 = -1) (p : PS 45 h w r) : Wp X 3 212 0 [vr 45, vi r, vi (pos w r)] [] h (RRd 45 h w r) := by
  refine S212_45_0 _ _ ?_
  rw [hl]
  refine ⟨fun q => absurd q (by omega), fun _ => ⟨fun q => rr_f (flt_lo ?_) ha, fun q => ⟨⟨by omega, by omega⟩, ?_⟩⟩⟩
  · have : w (pos w r) = -1 := by rw [hw] at q ⊢; exact fb_out (fun c => by omega)
    omega
  · have ea : h 46 (pos w r) = w (pos w r) := by rw [hw] at q ha ⊢; exact (fb_in ⟨ha, q⟩).symm
    rw [ea]
    refine ⟨fun c => (K213_45 hw hl hl2 hb hr ha (.inr ⟨c, rfl⟩) e6 p).mono fun v h1 _ e => ?_, fun c => ⟨fun c2 => (K213_45 hw hl hl2 hb hr ha (.inl ⟨c2, rfl⟩) e6 p).mono fun v h1 _ e => ?_, fun c2 => ⟨fun c3 => (K214_45 hw hl hl2 hb hr ha hk c3 e6 p).mono fun v h1 _ e => ?_, fun c3 => rr_f (flt_lo (by omega)) ha⟩⟩⟩
    · obtain ⟨s0, rfl, e⟩ := e
      exact S212_45_62 _ _ _ _ ⟨s0, rfl, e⟩
    · obtain ⟨s0, rfl, e⟩ := e
      exact S212_45_54 _ _ _ _ ⟨s0, rfl, e⟩
    · obtain ⟨s0, rfl, e⟩ := e
      exact S212_45_46 _ _ _ _ ⟨s0, rfl, e⟩
theorem L210_45 {h0 : HP} {w : Int → Int} {len : Int} (hw : w = fb (h0 46) len) (hl : h0 45 4 = len) (hl2 : len ≤ 50) (hb : ∀ p : Int, 0 ≤ p → p < len → 0 ≤ h0 46 p ∧ h0 46 p ≤ 255) : ∀ (k r : Nat) (h : HP), r + k = 8 → rdF w len k (pos w r) = FA w len → r + rdN w len k (pos w r) = NRu w len → 0 ≤ pos w r → (∀ i : Nat, i < r → w (pos w i) = 122 → 1 ≤ kR w (pos w i)) → h 45 6 = -1 → PS 45 h w r → Fr (fTx 45) h0 h → Wp X 4 210 16 [vr 45, vi (pos w r), vi r] [] h (fun v h' => v = none ∧ Fr (fTx 45) h0 h' ∧ TXd 45 h' w len) := by
  intro k
  induction k with
  | zero =>
    intro r h hr hF hN ha hk e6 p F
    refine S210_45_16 _ _ ⟨fun _ => ⟨rfl, F.up (.inl ⟨rfl, by decide, by decide⟩), ?_, fun q => ?_⟩, fun q => absurd q (by omega)⟩
    · rw [upd2_s]; exact hF
    · rw [← hF] at q
      have q : pos w r = -1 := q
      omega
  | succ k ih =>
    intro r h hr hF hN ha hk e6 p F
    have el : h 45 4 = len := (F _ _ (by unfold fTx; omega)).trans hl
    have e1 : h 46 = h0 46 := F.row (fun j => by unfold fTx; omega)
    have rF : rdF w len (k + 1) (pos w r) = if flt w (pos w r) ≠ -1 then flt w (pos w r) else if eR w (pos w r) = len then -1 else if w (eR w (pos w r)) ≠ 59 then eR w (pos w r) else rdF w len k (pos w (r + 1)) := rfl
    have rN : rdN w len (k + 1) (pos w r) = if flt w (pos w r) ≠ -1 then 0 else if eR w (pos w r) = len then 1 else if w (eR w (pos w r)) ≠ 59 then 1 else rdN w len k (pos w (r + 1)) + 1 := rfl
    rw [rF] at hF
    rw [rN] at hN
    refine S210_45_16 _ _ ⟨fun q => absurd q (by omega), fun _ => (K212_45 (by rw [e1]; exact hw) el hl2 (by rw [e1]; exact hb) (by omega) ha hk e6 p).mono fun v h1 _ e => ?_⟩
    obtain ⟨s0, rfl, F1, e⟩ := e
    have el1 : h1 45 4 = len := (F1 _ _ (by unfold fTx; omega)).trans el
    have e11 : h1 46 = h0 46 := (F1.row (fun j => by unfold fTx; omega)).trans e1
    rcases e with ⟨e, e2⟩ | ⟨e, e2, e3, e4⟩
    · rw [if_pos e] at hF
      refine S210_45_28 _ _ _ ⟨fun q => absurd q (by rw [e2]; exact e), fun _ => ⟨rfl, F.tr F1, by rw [e2]; exact hF, fun q => absurd (hF.trans q) e⟩⟩
    · rw [if_neg (fun c => c e)] at hF hN
      have ok := flt_ok ha e
      have hle : eR w (pos w r) ≤ len := by
        rcases ok with q | q
        · have z0 := q.2.2.2.2.2.2.2.1
          have zd : zR w (pos w r) = w (pos w r + 5) - 48 := if_pos q.1
          have := fb_rng (f := h0 46) (len := len) (p := pos w r + 5) (by rw [← hw]; omega)
          omega
        · have kd : kR w (pos w r) = w (pos w r + 1) - 48 := rfl
          have := fb_rng (f := h0 46) (len := len) (p := pos w r + 1) (by rw [← hw]; omega)
          omega
      have hge : 0 ≤ eR w (pos w r) := by omega
      have hk2 : ∀ i : Nat, i < r + 1 → w (pos w i) = 122 → 1 ≤ kR w (pos w i) := by
        intro i hi q
        by_cases c : i = r
        · rw [c] at q ⊢; omega
        · exact hk i (by omega) q
      subst e2
      refine S210_45_28 _ _ _ ?_
      rw [el1]
      refine ⟨fun _ => ⟨by unfold R32; omega, fun q => ⟨fun q2 => absurd q2 (by omega), fun _ => ⟨fun q2 => absurd q2 (by omega), fun q2 => ⟨⟨by omega, by omega⟩, ?_⟩⟩⟩, fun q => ?_⟩, fun q => absurd e3 q⟩
      · rw [if_neg q] at hF hN
        have eb : h1 46 (eR w (pos w r)) = w (eR w (pos w r)) := by rw [e11, hw]; rw [hw] at hge q2; exact (fb_in ⟨hge, q2⟩).symm
        rw [eb]
        have F2 : Fr (fun a j => a = 45 ∧ j = 5) h1 (upd2 h1 45 5 ((r : Int) + 1)) := Fr.rf.up ⟨rfl, rfl⟩
        have pf : ∀ {h' : HP}, Fr (fun a j => a = 45 ∧ (j = 5 ∨ j = 6)) h1 h' → PS 45 h' w (r + 1) := fun {h'} G => ⟨fun i hi => by rw [G _ _ (by omega), G _ _ (by omega)]; exact e4.1 i hi, (G _ _ (by omega)).trans e4.2.1, (G _ _ (by omega)).trans e4.2.2.1, e4.2.2.2.fr G (by omega) (by omega) (fun a j a1 a2 => by omega)⟩
        refine ⟨fun c59 => ?_, fun c59 => ?_⟩
        · rw [if_neg (fun c => c c59)] at hF hN
          refine ih (r + 1) _ (by omega) hF (by omega) (show 0 ≤ eR w (pos w r) + 1 by omega) hk2 ?_ (pf (F2.mo fun a j c => by omega)) ((F.tr F1).up (.inl ⟨rfl, by decide, by decide⟩))
          rw [upd2_o (by decide)]; exact e3
        · rw [if_pos c59] at hF hN
          refine ⟨rfl, ((F.tr F1).up (.inl ⟨rfl, by decide, by decide⟩)).up (.inl ⟨rfl, by decide, by decide⟩), by rw [upd2_s]; exact hF, fun q3 => ?_⟩
          rw [← hF] at q3
          omega
      · rw [if_pos q] at hF hN
        have F2 : Fr (fun a j => a = 45 ∧ j = 5) h1 (upd2 h1 45 5 ((r : Int) + 1)) := Fr.rf.up ⟨rfl, rfl⟩
        refine ⟨rfl, (F.tr F1).up (.inl ⟨rfl, by decide, by decide⟩), by rw [upd2_o (by decide), e3]; exact hF, fun _ => ?_⟩
        rw [← hN]
        exact ⟨upd2_s, fun i hi => by rw [F2 _ _ (by omega), F2 _ _ (by omega)]; exact e4.1 i hi, (F2 _ _ (by omega)).trans e4.2.1, (F2 _ _ (by omega)).trans e4.2.2.1, e4.2.2.2.fr F2 (by omega) (by omega) (fun a j a1 a2 => by omega)⟩
theorem K210_45 {h0 : HP} {w : Int → Int} {len : Int} (hw : w = fb (h0 46) len) (hl : h0 45 4 = len) (hl2 : 0 ≤ len ∧ len ≤ 50) (hb : ∀ p : Int, 0 ≤ p → p < len → 0 ≤ h0 46 p ∧ h0 46 p ≤ 255) : Wp X 4 210 0 [vr 45, vu, vu] [] h0 (fun v h' => v = none ∧ Fr (fTx 45) h0 h' ∧ TXd 45 h' w len) := by
  refine S210_45_0 ((K211_45 (w := w)).mono fun v h1 _ e => ?_)
  obtain ⟨rfl, F1, e6, e5, p⟩ := e
  have el : h1 45 4 = len := (F1 _ _ (by unfold fTx; omega)).trans hl
  refine S210_45_4 ?_
  rw [el]
  refine ⟨fun q => ?_, fun q => ⟨rfl, F1, ?_, fun _ => ?_⟩⟩
  · have e1 : h1 46 = h0 46 := F1.row (fun j => by unfold fTx; omega)
    refine (L210_45 (h0 := h1) (by rw [e1]; exact hw) el hl2.2 (by rw [e1]; exact hb) 8 0 h1 rfl ?_ ?_ (Int.le_refl 0) (fun i hi => absurd hi (Nat.not_lt_zero i)) e6 p Fr.rf).mono fun v h2 _ e => ⟨e.1, F1.tr e.2.1, e.2.2⟩
    · unfold FA; rw [if_neg q]; rfl
    · unfold NRu; rw [if_neg q, Nat.zero_add]; rfl
  · rw [e6]; unfold FA; rw [if_pos q]
  · have : NRu w len = 0 := if_pos q
    rw [this]
    exact ⟨e5, p⟩
/-- a byte comes behind a text -/
theorem K206_45 {h0 : HP} {x : Int} (hl : 0 ≤ h0 45 4 ∧ h0 45 4 < 50) (hx : 0 ≤ x ∧ x ≤ 255) (hb : ∀ p : Int, 0 ≤ p → p < h0 45 4 → 0 ≤ h0 46 p ∧ h0 46 p ≤ 255) : Wp X 5 206 0 [vr 45, vi x] [] h0 (fun v h' => v = none ∧ Fr (fTx 45) (upd2 (upd2 h0 46 (h0 45 4) x) 45 4 ((h0 45 4) + 1)) h' ∧ TXd 45 h' (fb (upd2 h0 46 (h0 45 4) x 46) (h0 45 4 + 1)) (h0 45 4 + 1)) := by
  refine S206_45_0 _ ⟨fun q => absurd q (by omega), fun _ => ⟨hl, (K210_45 (len := h0 45 4 + 1) (w := fb (upd2 h0 46 (h0 45 4) x 46) (h0 45 4 + 1)) ?_ upd2_s (by omega) (fun p a b => ?_)).mono fun v h1 _ e => ?_⟩⟩
  · rw [upd2_ne (a := 45) (b := 46) (by decide)]
  · rw [upd2_ne (a := 45) (b := 46) (by decide), upd2_at]
    split
    · exact hx
    · exact hb p a (by omega)
  · obtain ⟨rfl, e⟩ := e
    exact S206_45_31 _ _ ⟨rfl, e⟩
theorem K207_45 {h0 : HP} : Wp X 5 207 0 [vr 45] [] h0 (fun v h' => v = none ∧ Fr (fTx 45) (upd2 h0 45 4 0) h' ∧ TXd 45 h' (fb (h0 46) 0) 0) := by
  refine S207_45_0 ((K210_45 (len := 0) (w := fb (h0 46) 0) ?_ upd2_s (by omega) (fun p a b => absurd b (by omega))).mono fun v h1 _ e => ?_)
  · rw [upd2_ne (a := 45) (b := 46) (by decide)]
  · obtain ⟨rfl, e⟩ := e
    exact S207_45_9 _ ⟨rfl, e⟩
theorem rr_run_53 {h : HP} {w : Int → Int} {r : Nat} {s0 v7 v8 : Int} {f : Int} (e : flt w (pos w r) = -1) (hs : s0 = eR w (pos w r)) (hn : w (pos w r) ≠ 122) (e6 : h 53 6 = -1) (p : PS 53 h w r) (hf : f = 7 ∧ v7 = sho w 114 (r + 1) ∧ sho w 97 (r + 1) = sho w 97 r ∨ f = 8 ∧ v7 = sho w 97 (r + 1) ∧ sho w 114 (r + 1) = sho w 114 r) (e8 : v8 = kR w (pos w r)) : RRd 53 h w r (some (vi s0)) (upd2 (upd2 (upd2 h 53 f v7) 55 r (w (pos w r))) 56 r v8) := by
  have F : Fr (fun a j => (a = 53 ∧ j = f) ∨ a = 55 ∨ a = 56) h (upd2 (upd2 (upd2 h 53 f v7) 55 r (w (pos w r))) 56 r v8) := ((Fr.rf.up (.inl ⟨rfl, rfl⟩)).up (.inr (.inl rfl))).up (.inr (.inr rfl))
  refine ⟨s0, rfl, F.mo (fun a j c => by unfold fTx; omega), .inr ⟨e, hs, ?_, fun i hi => ?_, ?_, ?_, ZR_skip hn (p.2.2.2.fr F (by omega) (by omega) (fun a j a1 a2 => by omega))⟩⟩
  · rw [F _ _ (by omega)]; exact e6
  · rw [upd2_ne (a := 56) (b := 55) (by decide), upd2_at, upd2_at]
    by_cases q : i = r
    · rw [if_pos (by omega), if_pos (by omega), q, e8]; exact ⟨rfl, rfl⟩
    · rw [if_neg (by omega), if_neg (by omega), upd2_ne (by decide), upd2_ne (by decide), upd2_ne (by decide)]; exact p.1 i (by omega)
  · rw [upd2_ne (by decide), upd2_ne (by decide)]
    rcases hf with q | q
    · rw [q.1, upd2_s, q.2.1]
    · rw [q.1, upd2_o (by decide), p.2.1, q.2.2]
  · rw [upd2_ne (by decide), upd2_ne (by decide)]
    rcases hf with q | q
    · rw [q.1, upd2_o (by decide), p.2.2.1, q.2.2]
    · rw [q.1, upd2_s, q.2.1]
theorem K213_53 {h : HP} {w : Int → Int} {len : Int} {r : Nat} {x3 : Int} (hw : w = fb (h 54) len) (hl : h 53 4 = len) (hl2 : len ≤ 50) (hb : ∀ p : Int, 0 ≤ p → p < len → 0 ≤ h 54 p ∧ h 54 p ≤ 255) (hr : r < 8) (ha : 0 ≤ pos w r) (hc : w (pos w r) = 114 ∧ x3 = 2 ∨ w (pos w r) = 97 ∧ x3 = 3) (e6 : h 53 6 = -1) (p : PS 53 h w r) : Wp X 2 213 0 [vr 53, vi r, vi (pos w r), vi x3, vu] [] h (RRd 53 h w r) := by
  have ar : 0 ≤ pos w r ∧ pos w r < len := fb_rng (f := h 54) (by rw [← hw]; omega)
  have ea : h 54 (pos w r) = w (pos w r) := by rw [hw] at ar ⊢; exact (fb_in ar).symm
  have hn : w (pos w r) ≠ 122 := by omega
  have eE : eR w (pos w r) = pos w r + 2 := if_neg hn
  have s7 : sho w 114 (r + 1) = if w (pos w r) = 114 ∧ kR w (pos w r) < sho w 114 r then kR w (pos w r) else sho w 114 r := rfl
  have s8 : sho w 97 (r + 1) = if w (pos w r) = 97 ∧ kR w (pos w r) < sho w 97 r then kR w (pos w r) else sho w 97 r := rfl
  have p7 := p.2.1
  have p8 := p.2.2.1
  have kd : kR w (pos w r) = w (pos w r + 1) - 48 := rfl
  by_cases c1 : pos w r + 1 < len
  · have ek : h 54 (pos w r + 1) = w (pos w r + 1) := by rw [hw] at c1 ar ⊢; exact (fb_in ⟨by omega, c1⟩).symm
    have hb1 := hb (pos w r + 1) (by omega) c1
    refine S213_53_0 _ _ _ ?_
    rw [hl, ea, ek, ← kd, p7, p8]
    refine ⟨by unfold R32; omega, fun q => absurd q (by omega), fun _ => ⟨fun q => absurd q (by omega), fun _ => ⟨⟨by omega, by omega⟩, by unfold R32; omega, fun q => rr_f (flt_k (by omega)) (by omega), fun q => ⟨fun q2 => ⟨fun q3 => ⟨fun q4 => absurd q4 (by omega), fun q4 => ⟨fun q5 => absurd q5 (by omega), fun q5 => ⟨fun q6 => ⟨fun q7 => ⟨fun q8 => absurd q8 (by omega), fun q8 => ⟨fun q9 => absurd q9 (by omega), fun q9 => ?_⟩⟩, fun q7 => ⟨fun q8 => absurd q8 (by omega), fun q8 => ⟨fun q9 => absurd q9 (by omega), fun q9 => ?_⟩⟩⟩, fun q6 => ⟨fun q7 => ⟨fun q8 => absurd q8 (by omega), fun q8 => ⟨fun q9 => absurd q9 (by omega), fun q9 => ?_⟩⟩, fun q7 => ⟨fun q8 => absurd q8 (by omega), fun q8 => ⟨fun q9 => absurd q9 (by omega), fun q9 => ?_⟩⟩⟩⟩⟩⟩, fun q3 => absurd q3 (by omega)⟩, fun q2 => rr_f (flt_k (by omega)) (by omega)⟩⟩⟩⟩
    · exact rr_run_53 (flt_r (by omega)) eE.symm hn e6 p (.inr ⟨rfl, by rw [s8, if_pos ⟨by omega, q7⟩], by rw [s7, if_neg (fun q => q6 q.1)]⟩) rfl
    · exact rr_run_53 (flt_r (by omega)) eE.symm hn e6 p (.inr ⟨rfl, by rw [s8, if_neg (fun q => by omega)], by rw [s7, if_neg (fun q => q6 q.1)]⟩) rfl
    · exact rr_run_53 (flt_r (by omega)) eE.symm hn e6 p (.inl ⟨rfl, by rw [s7, if_pos ⟨by omega, q7⟩], by rw [s8, if_neg (fun q => by omega)]⟩) rfl
    · exact rr_run_53 (flt_r (by omega)) eE.symm hn e6 p (.inl ⟨rfl, by rw [s7, if_neg (fun q => by omega)], by rw [s8, if_neg (fun q => by omega)]⟩) rfl
  · have ek : w (pos w r + 1) = -1 := by rw [hw] at c1 ⊢; exact fb_out (fun q => c1 q.2)
    have fl : flt w (pos w r) = pos w r + 1 := flt_k (by rw [kd, ek]; omega)
    refine S213_53_0 _ _ _ ?_
    rw [hl]
    exact ⟨by unfold R32; omega, fun q => absurd q (by omega), fun _ => ⟨fun _ => ⟨fun _ => rr_f fl (by omega), fun q => absurd q (by omega)⟩, fun q => absurd q (by omega)⟩⟩
theorem K214_53 {h : HP} {w : Int → Int} {len : Int} {r : Nat} (hw : w = fb (h 54) len) (hl : h 53 4 = len) (hl2 : len ≤ 50) (hb : ∀ p : Int, 0 ≤ p → p < len → 0 ≤ h 54 p ∧ h 54 p ≤ 255) (hr : r < 8) (ha : 0 ≤ pos w r) (hk : ∀ i : Nat, i < r → w (pos w i) = 122 → 1 ≤ kR w (pos w i)) (hc : w (pos w r) = 122) (e6 : h 53 6 = -1) (p : PS 53 h w r) : Wp X 2 214 0 [vr 53, vi r, vi (pos w r), vu, vu, vu] [] h (RRd 53 h w r) := by
  have ar : 0 ≤ pos w r ∧ pos w r < len := fb_rng (f := h 54) (by rw [← hw]; omega)
  have kd : kR w (pos w r) = w (pos w r + 1) - 48 := rfl
  have nd : nR w (pos w r) = w (pos w r + 3) - 48 := if_pos hc
  have zd : zR w (pos w r) = w (pos w r + 5) - 48 := if_pos hc
  have eE : eR w (pos w r) = pos w r + 6 := if_pos hc
  have at_ : ∀ d : Int, 0 ≤ d → (pos w r + d < len ∧ h 54 (pos w r + d) = w (pos w r + d) ∧ 0 ≤ w (pos w r + d) ∧ w (pos w r + d) ≤ 255) ∨ (len ≤ pos w r + d ∧ w (pos w r + d) = -1) := by
    intro d hd
    by_cases c : pos w r + d < len
    · left
      have e : h 54 (pos w r + d) = w (pos w r + d) := by
        rw [hw] at c ar ⊢; exact (fb_in ⟨by omega, c⟩).symm
      have := hb (pos w r + d) (by omega) c
      exact ⟨c, e, by omega, by omega⟩
    · right
      refine ⟨by omega, ?_⟩
      rw [hw] at c ⊢
      exact fb_out (fun q => c q.2)
  have fz : 1 ≤ kR w (pos w r) ∧ kR w (pos w r) ≤ 5 → _ := fun q => flt_z hc q
  refine S214_53_0 _ _ ?_
  rw [hl]
  refine ⟨by unfold R32; omega, fun q => absurd q (by omega), fun _ => ?_⟩
  rcases at_ 1 (by omega) with ⟨b1, d1, f1⟩ | ⟨b1, d1⟩
  case inr => exact ⟨fun _ => rr_f (flt_k (by omega)) (by omega), fun q => absurd q (by omega)⟩
  refine ⟨fun q => absurd q (by omega), fun _ => ⟨⟨by omega, by omega⟩, ?_⟩⟩
  rw [d1, ← kd]
  refine ⟨by unfold R32; omega, fun q => rr_f (flt_k (by omega)) (by omega), fun k1 => ⟨fun k5 => ?_, fun q => rr_f (flt_k (by omega)) (by omega)⟩⟩
  have fz := fz ⟨k1, k5⟩
  rcases at_ 2 (by omega) with ⟨b2, d2, f2⟩ | ⟨b2, d2⟩
  case inr => exact ⟨fun _ => rr_f (by rw [fz, if_pos (by omega)]) (by omega), fun q => absurd q (by omega)⟩
  refine ⟨fun q => absurd q (by omega), fun _ => ⟨⟨by omega, by omega⟩, ?_⟩⟩
  rw [d2]
  refine ⟨fun c47 => ?_, fun q => rr_f (by rw [fz, if_pos q]) (by omega)⟩
  rw [if_neg (fun q => q c47)] at fz
  rcases at_ 3 (by omega) with ⟨b3, d3, f3⟩ | ⟨b3, d3⟩
  case inr => exact ⟨fun _ => rr_f (by rw [fz, if_pos (by omega)]) (by omega), fun q => absurd q (by omega)⟩
  refine ⟨fun q => absurd q (by omega), fun _ => ⟨⟨by omega, by omega⟩, ?_⟩⟩
  rw [d3, ← nd]
  refine ⟨by unfold R32; omega, fun q => rr_f (by rw [fz, if_pos (by omega)]) (by omega), fun n1 => ⟨fun n5 => ⟨fun _ => ?_, fun q => absurd q (by omega)⟩, fun q => rr_f (by rw [fz, if_pos (by omega)]) (by omega)⟩⟩
  rw [if_neg (by omega)] at fz
  rcases at_ 4 (by omega) with ⟨b4, d4, f4⟩ | ⟨b4, d4⟩
  case inr => exact ⟨fun _ => rr_f (by rw [fz, if_pos (by omega)]) (by omega), fun q => absurd q (by omega)⟩
  refine ⟨fun q => absurd q (by omega), fun _ => ⟨⟨by omega, by omega⟩, ?_⟩⟩
  rw [d4]
  refine ⟨fun c62 => ?_, fun q => rr_f (by rw [fz, if_pos q]) (by omega)⟩
  rw [if_neg (fun q => q c62)] at fz
  rcases at_ 5 (by omega) with ⟨b5, d5, f5⟩ | ⟨b5, d5⟩
  case inr => exact ⟨fun _ => rr_f (by rw [fz, if_pos (by omega)]) (by omega), fun q => absurd q (by omega)⟩
  refine ⟨fun q => absurd q (by omega), fun _ => ⟨⟨by omega, by omega⟩, ?_⟩⟩
  rw [d5, ← zd]
  refine ⟨by unfold R32; omega, fun q => rr_f (by rw [fz, if_pos (by omega)]) (by omega), fun z0 => ⟨fun z3 => ?_, fun q => rr_f (by rw [fz, if_pos (by omega)]) (by omega)⟩⟩
  rw [if_neg (by omega)] at fz
  refine (K245_57 hr (fun i hi q => ?_) hc k5 ⟨by omega, n5⟩ ⟨z0, z3⟩ p.2.2.2).mono fun v h1 _ e => ?_
  · by_cases e : i = r
    · rw [e]; exact k1
    · exact hk i (by omega) q
  obtain ⟨rfl, F1, Z1⟩ := e
  have F : Fr (fTx 53) h (upd2 (upd2 h1 55 r 122) 56 r (kR w (pos w r))) := ((F1.mo fun a j c => by unfold fZ at c; unfold fTx; omega).up (.inr (.inl (by decide)))).up (.inr (.inl (by decide)))
  have F2 : Fr (fun a j => a = 55 ∨ a = 56) h1 (upd2 (upd2 h1 55 r 122) 56 r (kR w (pos w r))) := (Fr.rf.up (.inl rfl)).up (.inr rfl)
  refine S214_53_126 _ _ _ _ _ ⟨fun q => absurd q (by omega), fun _ => ⟨fun q => absurd q (by omega), fun _ => ⟨by unfold R32; omega, pos w r + 6, rfl, F, .inr ⟨fz, eE.symm, ?_, fun i hi => ?_, ?_, ?_, Z1.fr F2 (by omega) (by omega) (fun a j a1 a2 => by omega)⟩⟩⟩⟩
  · rw [upd2_ne (by decide), upd2_ne (by decide), F1 _ _ (by unfold fZ; omega)]; exact e6
  · rw [upd2_ne (a := 56) (b := 55) (by decide), upd2_at, upd2_at]
    by_cases q : i = r
    · rw [if_pos (by omega), if_pos (by omega), q, hc]; exact ⟨rfl, rfl⟩
    · rw [if_neg (by omega), if_neg (by omega), upd2_ne (by decide), F1 _ _ (by unfold fZ; omega), F1 _ _ (by unfold fZ; omega)]; exact p.1 i (by omega)
  · rw [upd2_ne (by decide), upd2_ne (by decide), F1 _ _ (by unfold fZ; omega), p.2.1]
    show _ = if w (pos w r) = 114 ∧ _ then _ else _
    rw [if_neg (fun q => by omega)]
  · rw [upd2_ne (by decide), upd2_ne (by decide), F1 _ _ (by unfold fZ; omega), p.2.2.1]
    show _ = if w (pos w r) = 97 ∧ _ then _ else _
    rw [if_neg (fun q => by omega)]
theorem K212_53 {h : HP} {w : Int → Int} {len : Int} {r : Nat} (hw : w = fb (h 54) len) (hl : h 53 4 = len) (hl2 : len ≤ 50) (hb : ∀ p : Int, 0 ≤ p → p < len → 0 ≤ h 54 p ∧ h 54 p ≤ 255) (hr : r < 8) (ha : 0 ≤ pos w r) (hk : ∀ i : Nat, i < r → w (pos w i) = 122 → 1 ≤ kR w (pos w i)) (e6 : h 53 6 = -1) (p : PS 53 h w r) : Wp X 3 212 0 [vr 53, vi r, vi (pos w r)] [] h (RRd 53 h w r) := by
  refine S212_53_0 _ _ ?_
  rw [hl]
  refine ⟨fun q => absurd q (by omega), fun _ => ⟨fun q => rr_f (flt_lo ?_) ha, fun q => ⟨⟨by omega, by omega⟩, ?_⟩⟩⟩
  · have : w (pos w r) = -1 := by rw [hw] at q ⊢; exact fb_out (fun c => by omega)
    omega
  · have ea : h 54 (pos w r) = w (pos w r) := by rw [hw] at q ha ⊢; exact (fb_in ⟨ha, q⟩).symm
    rw [ea]
    refine ⟨fun c => (K213_53 hw hl hl2 hb hr ha (.inr ⟨c, rfl⟩) e6 p).mono fun v h1 _ e => ?_, fun c => ⟨fun c2 => (K213_53 hw hl hl2 hb hr ha (.inl ⟨c2, rfl⟩) e6 p).mono fun v h1 _ e => ?_, fun c2 => ⟨fun c3 => (K214_53 hw hl hl2 hb hr ha hk c3 e6 p).mono fun v h1 _ e => ?_, fun c3 => rr_f (flt_lo (by omega)) ha⟩⟩⟩
    · obtain ⟨s0, rfl, e⟩ := e
      exact S212_53_62 _ _ _ _ ⟨s0, rfl, e⟩
    · obtain ⟨s0, rfl, e⟩ := e
      exact S212_53_54 _ _ _ _ ⟨s0, rfl, e⟩
    · obtain ⟨s0, rfl, e⟩ := e
      exact S212_53_46 _ _ _ _ ⟨s0, rfl, e⟩
theorem L210_53 {h0 : HP} {w : Int → Int} {len : Int} (hw : w = fb (h0 54) len) (hl : h0 53 4 = len) (hl2 : len ≤ 50) (hb : ∀ p : Int, 0 ≤ p → p < len → 0 ≤ h0 54 p ∧ h0 54 p ≤ 255) : ∀ (k r : Nat) (h : HP), r + k = 8 → rdF w len k (pos w r) = FA w len → r + rdN w len k (pos w r) = NRu w len → 0 ≤ pos w r → (∀ i : Nat, i < r → w (pos w i) = 122 → 1 ≤ kR w (pos w i)) → h 53 6 = -1 → PS 53 h w r → Fr (fTx 53) h0 h → Wp X 4 210 16 [vr 53, vi (pos w r), vi r] [] h (fun v h' => v = none ∧ Fr (fTx 53) h0 h' ∧ TXd 53 h' w len) := by
  intro k
  induction k with
  | zero =>
    intro r h hr hF hN ha hk e6 p F
    refine S210_53_16 _ _ ⟨fun _ => ⟨rfl, F.up (.inl ⟨rfl, by decide, by decide⟩), ?_, fun q => ?_⟩, fun q => absurd q (by omega)⟩
    · rw [upd2_s]; exact hF
    · rw [← hF] at q
      have q : pos w r = -1 := q
      omega
  | succ k ih =>
    intro r h hr hF hN ha hk e6 p F
    have el : h 53 4 = len := (F _ _ (by unfold fTx; omega)).trans hl
    have e1 : h 54 = h0 54 := F.row (fun j => by unfold fTx; omega)
    have rF : rdF w len (k + 1) (pos w r) = if flt w (pos w r) ≠ -1 then flt w (pos w r) else if eR w (pos w r) = len then -1 else if w (eR w (pos w r)) ≠ 59 then eR w (pos w r) else rdF w len k (pos w (r + 1)) := rfl
    have rN : rdN w len (k + 1) (pos w r) = if flt w (pos w r) ≠ -1 then 0 else if eR w (pos w r) = len then 1 else if w (eR w (pos w r)) ≠ 59 then 1 else rdN w len k (pos w (r + 1)) + 1 := rfl
    rw [rF] at hF
    rw [rN] at hN
    refine S210_53_16 _ _ ⟨fun q => absurd q (by omega), fun _ => (K212_53 (by rw [e1]; exact hw) el hl2 (by rw [e1]; exact hb) (by omega) ha hk e6 p).mono fun v h1 _ e => ?_⟩
    obtain ⟨s0, rfl, F1, e⟩ := e
    have el1 : h1 53 4 = len := (F1 _ _ (by unfold fTx; omega)).trans el
    have e11 : h1 54 = h0 54 := (F1.row (fun j => by unfold fTx; omega)).trans e1
    rcases e with ⟨e, e2⟩ | ⟨e, e2, e3, e4⟩
    · rw [if_pos e] at hF
      refine S210_53_28 _ _ _ ⟨fun q => absurd q (by rw [e2]; exact e), fun _ => ⟨rfl, F.tr F1, by rw [e2]; exact hF, fun q => absurd (hF.trans q) e⟩⟩
    · rw [if_neg (fun c => c e)] at hF hN
      have ok := flt_ok ha e
      have hle : eR w (pos w r) ≤ len := by
        rcases ok with q | q
        · have z0 := q.2.2.2.2.2.2.2.1
          have zd : zR w (pos w r) = w (pos w r + 5) - 48 := if_pos q.1
          have := fb_rng (f := h0 54) (len := len) (p := pos w r + 5) (by rw [← hw]; omega)
          omega
        · have kd : kR w (pos w r) = w (pos w r + 1) - 48 := rfl
          have := fb_rng (f := h0 54) (len := len) (p := pos w r + 1) (by rw [← hw]; omega)
          omega
      have hge : 0 ≤ eR w (pos w r) := by omega
      have hk2 : ∀ i : Nat, i < r + 1 → w (pos w i) = 122 → 1 ≤ kR w (pos w i) := by
        intro i hi q
        by_cases c : i = r
        · rw [c] at q ⊢; omega
        · exact hk i (by omega) q
      subst e2
      refine S210_53_28 _ _ _ ?_
      rw [el1]
      refine ⟨fun _ => ⟨by unfold R32; omega, fun q => ⟨fun q2 => absurd q2 (by omega), fun _ => ⟨fun q2 => absurd q2 (by omega), fun q2 => ⟨⟨by omega, by omega⟩, ?_⟩⟩⟩, fun q => ?_⟩, fun q => absurd e3 q⟩
      · rw [if_neg q] at hF hN
        have eb : h1 54 (eR w (pos w r)) = w (eR w (pos w r)) := by rw [e11, hw]; rw [hw] at hge q2; exact (fb_in ⟨hge, q2⟩).symm
        rw [eb]
        have F2 : Fr (fun a j => a = 53 ∧ j = 5) h1 (upd2 h1 53 5 ((r : Int) + 1)) := Fr.rf.up ⟨rfl, rfl⟩
        have pf : ∀ {h' : HP}, Fr (fun a j => a = 53 ∧ (j = 5 ∨ j = 6)) h1 h' → PS 53 h' w (r + 1) := fun {h'} G => ⟨fun i hi => by rw [G _ _ (by omega), G _ _ (by omega)]; exact e4.1 i hi, (G _ _ (by omega)).trans e4.2.1, (G _ _ (by omega)).trans e4.2.2.1, e4.2.2.2.fr G (by omega) (by omega) (fun a j a1 a2 => by omega)⟩
        refine ⟨fun c59 => ?_, fun c59 => ?_⟩
        · rw [if_neg (fun c => c c59)] at hF hN
          refine ih (r + 1) _ (by omega) hF (by omega) (show 0 ≤ eR w (pos w r) + 1 by omega) hk2 ?_ (pf (F2.mo fun a j c => by omega)) ((F.tr F1).up (.inl ⟨rfl, by decide, by decide⟩))
          rw [upd2_o (by decide)]; exact e3
        · rw [if_pos c59] at hF hN
          refine ⟨rfl, ((F.tr F1).up (.inl ⟨rfl, by decide, by decide⟩)).up (.inl ⟨rfl, by decide, by decide⟩), by rw [upd2_s]; exact hF, fun q3 => ?_⟩
          rw [← hF] at q3
          omega
      · rw [if_pos q] at hF hN
        have F2 : Fr (fun a j => a = 53 ∧ j = 5) h1 (upd2 h1 53 5 ((r : Int) + 1)) := Fr.rf.up ⟨rfl, rfl⟩
        refine ⟨rfl, (F.tr F1).up (.inl ⟨rfl, by decide, by decide⟩), by rw [upd2_o (by decide), e3]; exact hF, fun _ => ?_⟩
        rw [← hN]
        exact ⟨upd2_s, fun i hi => by rw [F2 _ _ (by omega), F2 _ _ (by omega)]; exact e4.1 i hi, (F2 _ _ (by omega)).trans e4.2.1, (F2 _ _ (by omega)).trans e4.2.2.1, e4.2.2.2.fr F2 (by omega) (by omega) (fun a j a1 a2 => by omega)⟩
theorem K210_53 {h0 : HP} {w : Int → Int} {len : Int} (hw : w = fb (h0 54) len) (hl : h0 53 4 = len) (hl2 : 0 ≤ len ∧ len ≤ 50) (hb : ∀ p : Int, 0 ≤ p → p < len → 0 ≤ h0 54 p ∧ h0 54 p ≤ 255) : Wp X 4 210 0 [vr 53, vu, vu] [] h0 (fun v h' => v = none ∧ Fr (fTx 53) h0 h' ∧ TXd 53 h' w len) := by
  refine S210_53_0 ((K211_53 (w := w)).mono fun v h1 _ e => ?_)
  obtain ⟨rfl, F1, e6, e5, p⟩ := e
  have el : h1 53 4 = len := (F1 _ _ (by unfold fTx; omega)).trans hl
  refine S210_53_4 ?_
  rw [el]
  refine ⟨fun q => ?_, fun q => ⟨rfl, F1, ?_, fun _ => ?_⟩⟩
  · have e1 : h1 54 = h0 54 := F1.row (fun j => by unfold fTx; omega)
    refine (L210_53 (h0 := h1) (by rw [e1]; exact hw) el hl2.2 (by rw [e1]; exact hb) 8 0 h1 rfl ?_ ?_ (Int.le_refl 0) (fun i hi => absurd hi (Nat.not_lt_zero i)) e6 p Fr.rf).mono fun v h2 _ e => ⟨e.1, F1.tr e.2.1, e.2.2⟩
    · unfold FA; rw [if_neg q]; rfl
    · unfold NRu; rw [if_neg q, Nat.zero_add]; rfl
  · rw [e6]; unfold FA; rw [if_pos q]
  · have : NRu w len = 0 := if_pos q
    rw [this]
    exact ⟨e5, p⟩
/-- a byte comes behind a text -/
theorem K206_53 {h0 : HP} {x : Int} (hl : 0 ≤ h0 53 4 ∧ h0 53 4 < 50) (hx : 0 ≤ x ∧ x ≤ 255) (hb : ∀ p : Int, 0 ≤ p → p < h0 53 4 → 0 ≤ h0 54 p ∧ h0 54 p ≤ 255) : Wp X 5 206 0 [vr 53, vi x] [] h0 (fun v h' => v = none ∧ Fr (fTx 53) (upd2 (upd2 h0 54 (h0 53 4) x) 53 4 ((h0 53 4) + 1)) h' ∧ TXd 53 h' (fb (upd2 h0 54 (h0 53 4) x 54) (h0 53 4 + 1)) (h0 53 4 + 1)) := by
  refine S206_53_0 _ ⟨fun q => absurd q (by omega), fun _ => ⟨hl, (K210_53 (len := h0 53 4 + 1) (w := fb (upd2 h0 54 (h0 53 4) x 54) (h0 53 4 + 1)) ?_ upd2_s (by omega) (fun p a b => ?_)).mono fun v h1 _ e => ?_⟩⟩
  · rw [upd2_ne (a := 53) (b := 54) (by decide)]
  · rw [upd2_ne (a := 53) (b := 54) (by decide), upd2_at]
    split
    · exact hx
    · exact hb p a (by omega)
  · obtain ⟨rfl, e⟩ := e
    exact S206_53_31 _ _ ⟨rfl, e⟩
theorem K207_53 {h0 : HP} : Wp X 5 207 0 [vr 53] [] h0 (fun v h' => v = none ∧ Fr (fTx 53) (upd2 h0 53 4 0) h' ∧ TXd 53 h' (fb (h0 54) 0) 0) := by
  refine S207_53_0 ((K210_53 (len := 0) (w := fb (h0 54) 0) ?_ upd2_s (by omega) (fun p a b => absurd b (by omega))).mono fun v h1 _ e => ?_)
  · rw [upd2_ne (a := 53) (b := 54) (by decide)]
  · obtain ⟨rfl, e⟩ := e
    exact S207_53_9 _ ⟨rfl, e⟩
end
