-- ===== the reference's rules of r and a; all rules of a text =====
theorem sg_v {d : Int} : sg d = 1 ∨ sg d = 0 ∨ sg d = -1 := by
  unfold sg
  repeat' split
  all_goals omega
theorem wy_v {s : Nat → Int} : ∀ n : Nat, wy s n = 1 ∨ wy s n = 0 ∨ wy s n = -1
  | 0 => .inr (.inl rfl)
  | n + 1 => sg_v
theorem swy_st {s : Nat → Int} {p : Nat} : ∀ d : Nat, (d : Int) + 2 ≤ swy s p → d + 1 ≤ p ∧ swy s (p - d) + d = swy s p ∧ wy s (p - d) ≠ 0
  | 0, h => by
    have hp : p ≠ 0 := fun e => by rw [e] at h; have q : swy s 0 = 1 := rfl; omega
    refine ⟨by omega, by rw [Nat.sub_zero]; omega, fun e => ?_⟩
    obtain ⟨n, rfl⟩ : ∃ n, p = n + 1 := ⟨p - 1, by omega⟩
    have e : wy s (n + 1) = 0 := e
    have : swy s (n + 1) = 1 := if_pos e
    omega
  | d + 1, h => by
    obtain ⟨a1, a2, a3⟩ := swy_st (s := s) (p := p) d (by omega)
    have hp : p - d ≠ 0 := by omega
    obtain ⟨n, hn⟩ : ∃ n, p - d = n + 1 := ⟨p - d - 1, by omega⟩
    rw [hn] at a2 a3
    have e : swy s (n + 1) = if wy s (n + 1) = 0 then 1 else if wy s (n + 1) = wy s n then swy s n + 1 else 2 := rfl
    rw [if_neg a3] at e
    by_cases c : wy s (n + 1) = wy s n
    · rw [if_pos c] at e
      have en : p - (d + 1) = n := by omega
      have hn0 : n ≠ 0 := fun q => a3 (by rw [c, q]; rfl)
      exact ⟨by omega, by rw [en]; omega, by rw [en, ← c]; exact a3⟩
    · rw [if_neg c] at e
      omega
theorem swy_nx {s : Nat → Int} {p d : Nat} (h : (d : Int) + 2 ≤ swy s p) : (d : Int) + 3 ≤ swy s p ↔ wy s (p - d - 1) = wy s (p - d) := by
  obtain ⟨a1, a2, a3⟩ := swy_st d h
  obtain ⟨n, hn⟩ : ∃ n, p - d = n + 1 := ⟨p - d - 1, by omega⟩
  rw [hn] at a2 a3 ⊢
  have e : swy s (n + 1) = if wy s (n + 1) = 0 then 1 else if wy s (n + 1) = wy s n then swy s n + 1 else 2 := rfl
  rw [if_neg a3] at e
  rw [Nat.add_sub_cancel]
  by_cases c : wy s (n + 1) = wy s n
  · rw [if_pos c] at e
    have hn0 : n ≠ 0 := fun q => a3 (by rw [c, q]; rfl)
    obtain ⟨n', rfl⟩ : ∃ n', n = n' + 1 := ⟨n - 1, by omega⟩
    have e2 : swy s (n' + 1) = if wy s (n' + 1) = 0 then 1 else if wy s (n' + 1) = wy s n' then swy s n' + 1 else 2 := rfl
    rw [if_neg (by rw [← c]; exact a3)] at e2
    have := (swy_r (s := s) n').1
    constructor
    · intro _; exact c.symm
    · intro _
      split at e2 <;> omega
  · rw [if_neg c] at e
    constructor
    · intro q; omega
    · intro q; exact absurd q.symm c
theorem owy_st {s : Nat → Int} {p : Nat} : ∀ d : Nat, (d : Int) + 2 ≤ owy s p → d + 1 ≤ p ∧ owy s (p - d) + d = owy s p ∧ wy s (p - d) ≠ 0
  | 0, h => by
    have hp : p ≠ 0 := fun e => by rw [e] at h; have q : owy s 0 = 1 := rfl; omega
    refine ⟨by omega, by rw [Nat.sub_zero]; omega, fun e => ?_⟩
    obtain ⟨n, rfl⟩ : ∃ n, p = n + 1 := ⟨p - 1, by omega⟩
    have e : wy s (n + 1) = 0 := e
    have : owy s (n + 1) = 1 := if_pos e
    omega
  | d + 1, h => by
    obtain ⟨a1, a2, a3⟩ := owy_st (s := s) (p := p) d (by omega)
    have hp : p - d ≠ 0 := by omega
    obtain ⟨n, hn⟩ : ∃ n, p - d = n + 1 := ⟨p - d - 1, by omega⟩
    rw [hn] at a2 a3
    have e : owy s (n + 1) = if wy s (n + 1) = 0 then 1 else if wy s (n + 1) = wy s n then 2 else owy s n + 1 := rfl
    rw [if_neg a3] at e
    by_cases c : wy s (n + 1) = wy s n
    · rw [if_pos c] at e
      omega
    · rw [if_neg c] at e
      have en : p - (d + 1) = n := by omega
      have hw : wy s n ≠ 0 := by
        intro q
        have : owy s n = 1 := by
          cases n with
          | zero => rfl
          | succ n => exact if_pos q
        omega
      have hn0 : n ≠ 0 := fun q => hw (by rw [q]; rfl)
      exact ⟨by omega, by rw [en]; omega, by rw [en]; exact hw⟩
theorem owy_nx {s : Nat → Int} {p d : Nat} (h : (d : Int) + 2 ≤ owy s p) : (d : Int) + 3 ≤ owy s p ↔ wy s (p - d - 1) = -wy s (p - d) := by
  obtain ⟨a1, a2, a3⟩ := owy_st d h
  obtain ⟨n, hn⟩ : ∃ n, p - d = n + 1 := ⟨p - d - 1, by omega⟩
  rw [hn] at a2 a3 ⊢
  have e : owy s (n + 1) = if wy s (n + 1) = 0 then 1 else if wy s (n + 1) = wy s n then 2 else owy s n + 1 := rfl
  rw [if_neg a3] at e
  rw [Nat.add_sub_cancel]
  have v1 := wy_v (s := s) (n + 1)
  have v0 := wy_v (s := s) n
  by_cases c : wy s (n + 1) = wy s n
  · rw [if_pos c] at e
    omega
  · rw [if_neg c] at e
    have o : owy s n = 1 ↔ wy s n = 0 := by
      cases n with
      | zero => exact ⟨fun _ => rfl, fun _ => rfl⟩
      | succ n =>
        have e2 : owy s (n + 1) = if wy s (n + 1) = 0 then 1 else if wy s (n + 1) = wy s n then 2 else owy s n + 1 := rfl
        have := (swy_r (s := s) n).2.2.1
        constructor
        · intro q
          by_cases z : wy s (n + 1) = 0
          · exact z
          · rw [if_neg z] at e2
            split at e2 <;> omega
        · intro q; exact if_pos q
    have := (swy_r (s := s) n).2.2.1
    omega
section
variable {X : Nat × (Int → Int)} {b : HP}
/-- what isWay holds against: the last that rise or fall, or go up and down -/
def wf (w : Int → Int) (s : Nat → Int) (p : Nat) (a : Int) : Int := if w a = 114 then swy s p else owy s p
theorem wf_nx {w : Int → Int} {s : Nat → Int} {p d : Nat} {a : Int} (h : (d : Int) + 2 ≤ wf w s p a) : d + 1 ≤ p ∧ wy s (p - d) ≠ 0 ∧ ((d : Int) + 3 ≤ wf w s p a ↔ (w a = 114 ∧ wy s (p - d - 1) = wy s (p - d)) ∨ (w a ≠ 114 ∧ wy s (p - d - 1) = -wy s (p - d))) := by
  unfold wf at h ⊢
  by_cases c : w a = 114
  · rw [if_pos c] at h ⊢
    obtain ⟨a1, a2, a3⟩ := swy_st d h
    refine ⟨a1, a3, (swy_nx h).trans ⟨fun q => .inl ⟨c, q⟩, fun q => ?_⟩⟩
    rcases q with q | q
    · exact q.2
    · exact absurd c q.1
  · rw [if_neg c] at h ⊢
    obtain ⟨a1, a2, a3⟩ := owy_st d h
    refine ⟨a1, a3, (owy_nx h).trans ⟨fun q => .inr ⟨c, q⟩, fun q => ?_⟩⟩
    rcases q with q | q
    · exact absurd q.1 c
    · exact q.2
theorem wf_0 {w : Int → Int} {s : Nat → Int} {p : Nat} {a : Int} (hp : 1 ≤ p) : 2 ≤ wf w s p a ↔ wy s p ≠ 0 := by
  obtain ⟨n, rfl⟩ : ∃ n, p = n + 1 := ⟨p - 1, by omega⟩
  have e1 : swy s (n + 1) = if wy s (n + 1) = 0 then 1 else if wy s (n + 1) = wy s n then swy s n + 1 else 2 := rfl
  have e2 : owy s (n + 1) = if wy s (n + 1) = 0 then 1 else if wy s (n + 1) = wy s n then 2 else owy s n + 1 := rfl
  have := swy_r (s := s) n
  unfold wf
  by_cases c : wy s (n + 1) = 0
  · rw [if_pos c] at e1 e2
    split <;> omega
  · rw [if_neg c] at e1 e2
    split <;> split at e1 <;> split at e2 <;> omega
theorem wf_r {w : Int → Int} {s : Nat → Int} {p : Nat} {a : Int} : wf w s p a ≤ p + 1 := by
  have := swy_r (s := s) p
  unfold wf
  split <;> omega
theorem L96 {h : HP} {w : Int → Int} {n i : Nat} {l : List Int} {p : Nat} (T : Tok b) (v : VV b h) (lk : LKd b h l) (m : MS h w n) (hn : n ≤ 8) (hi : i < n) (hk : 2 ≤ kR w (pos w i) ∧ kR w (pos w i) ≤ 9) (hp : p < l.length) (hkp : kR w (pos w i) ≤ p + 1) : ∀ (k d : Nat) (fl : Int), (d : Int) + k + 2 = kR w (pos w i) → (fl = 0 ∨ fl = 1) → (fl = 1 ↔ (d : Int) + 2 ≤ wf w (msq (mnV (VL b)) l) p (pos w i)) → Wp X 1 96 31 [vr 89, vi i, vi p, vi fl, vi ((p : Int) - d)] [] h (fun vv h' => vv = some (vi (if kR w (pos w i) ≤ wf w (msq (mnV (VL b)) l) p (pos w i) then 1 else 0)) ∧ h' = h) := by
  have mi := m.2 i hi
  have hl20 := lk.2.1
  have t := T.1
  intro k
  induction k with
  | zero =>
    intro d fl hd hf hw
    refine S96_89_31 _ _ _ _ ?_
    rw [mi.2.1]
    refine ⟨⟨by omega, by omega⟩, by unfold R32; omega, by unfold R32; omega, fun _ => ⟨hf, ?_, rfl⟩, fun q => absurd q (by omega)⟩
    by_cases c : kR w (pos w i) ≤ wf w (msq (mnV (VL b)) l) p (pos w i)
    · rw [if_pos c, hw.mpr (by omega)]
    · rw [if_neg c]
      rcases hf with q | q
      · rw [q]
      · exact absurd (hw.mp q) (by omega)
  | succ k ih =>
    intro d fl hd hf hw
    refine S96_89_31 _ _ _ _ ?_
    rw [mi.2.1]
    refine ⟨⟨by omega, by omega⟩, by unfold R32; omega, by unfold R32; omega, fun q => absurd q (by omega), fun _ => ⟨fun q => ⟨hf, ?_, rfl⟩, fun q => ?_⟩⟩
    · rw [if_neg (fun c => by have := hw.mpr (by omega); omega), q]
    · have h1 : fl = 1 := by omega
      have nx := wf_nx (hw.mp h1)
      obtain ⟨e1, e2, e3⟩ := nx
      have hdp : d + 2 ≤ p := by omega
      have x0 : (p : Int) - d = ((p - d : Nat) : Int) := by omega
      have x1 : (p : Int) - d - 1 = ((p - d - 1 : Nat) : Int) := by omega
      have x2 : (p : Int) - d - 1 - 1 = ((p - d - 2 : Nat) : Int) := by omega
      have l0 := lk.1 (p - d) (by omega)
      have l1 := lk.1 (p - d - 1) (by omega)
      have l2 := lk.1 (p - d - 2) (by omega)
      have g0 := lk.2.2 _ (getD_mem (l := l) (i := p - d) (by omega))
      have g1 := lk.2.2 _ (getD_mem (l := l) (i := p - d - 1) (by omega))
      have g2 := lk.2.2 _ (getD_mem (l := l) (i := p - d - 2) (by omega))
      have v0 := (v.2.1 _ g0.1 g0.2).1
      have v1 := (v.2.1 _ g1.1 g1.2).1
      have v2 := (v.2.1 _ g2.1 g2.2).1
      have r0 := mnV_r (VL_ok T) (l.getD (p - d) 0)
      have r1 := mnV_r (VL_ok T) (l.getD (p - d - 1) 0)
      have r2 := mnV_r (VL_ok T) (l.getD (p - d - 2) 0)
      have w0 : wy (msq (mnV (VL b)) l) (p - d) = sg (mnV (VL b) (l.getD (p - d) 0) - mnV (VL b) (l.getD (p - d - 1) 0)) := by
        obtain ⟨n', hn'⟩ : ∃ n', p - d = n' + 1 := ⟨p - d - 1, by omega⟩
        rw [hn', Nat.add_sub_cancel]
        rfl
      have w1 : wy (msq (mnV (VL b)) l) (p - d - 1) = sg (mnV (VL b) (l.getD (p - d - 1) 0) - mnV (VL b) (l.getD (p - d - 2) 0)) := by
        obtain ⟨n', hn'⟩ : ∃ n', p - d - 1 = n' + 1 := ⟨p - d - 2, by omega⟩
        have hn2 : p - d - 2 = n' := by omega
        rw [hn', hn2]
        rfl
      rw [w0, w1] at e3
      have go := ih (d + 1)
      have go2 : ∀ nf : Int, (nf = 0 ∨ nf = 1) → (nf = 1 ↔ (w (pos w i) = 114 ∧ sg (mnV (VL b) (l.getD (p - d - 1) 0) - mnV (VL b) (l.getD (p - d - 2) 0)) = sg (mnV (VL b) (l.getD (p - d) 0) - mnV (VL b) (l.getD (p - d - 1) 0))) ∨ (w (pos w i) ≠ 114 ∧ sg (mnV (VL b) (l.getD (p - d - 1) 0) - mnV (VL b) (l.getD (p - d - 2) 0)) = -sg (mnV (VL b) (l.getD (p - d) 0) - mnV (VL b) (l.getD (p - d - 1) 0)))) → Wp X 1 96 31 [vr 89, vi i, vi p, vi nf, vi ((p : Int) - d + (-1))] [] h (fun vv h' => vv = some (vi (if kR w (pos w i) ≤ wf w (msq (mnV (VL b)) l) p (pos w i) then 1 else 0)) ∧ h' = h) := by
        intro nf a1 a2
        have g := go nf (by omega) a1 (a2.trans (e3.symm.trans ⟨fun q => by omega, fun q => by omega⟩))
        rw [show (p : Int) - ((d + 1 : Nat) : Int) = (p : Int) - d + (-1) by omega] at g
        exact g
      clear go ih e3 w0 w1 e2
      rw [x2, x1, l2, l1, v2, v1, x0, l0, v0, mi.1]
      rw [x0] at go2
      generalize mnV (VL b) (l.getD (p - d) 0) = c0 at *
      generalize mnV (VL b) (l.getD (p - d - 1) 0) = c1 at *
      generalize mnV (VL b) (l.getD (p - d - 2) 0) = c2 at *
      have s1 : sg (c1 - c2) = if 0 < c1 - c2 then 1 else if c1 - c2 < 0 then -1 else 0 := rfl
      have s0 : sg (c0 - c1) = if 0 < c0 - c1 then 1 else if c0 - c1 < 0 then -1 else 0 := rfl
      generalize sg (c1 - c2) = y1 at *
      generalize sg (c0 - c1) = y0 at *
      refine ⟨by unfold R32; omega, ⟨by omega, by omega⟩, ⟨by omega, by omega⟩, ⟨by omega, by omega⟩, ⟨by omega, by omega⟩, by unfold R32; omega, fun q1 => ⟨fun q2 => ?_, fun q2 => ?_⟩, fun q1 => ?_⟩
      · rw [if_neg (by omega), if_neg (by omega)] at s1
        refine ⟨fun q3 => ⟨⟨by omega, by omega⟩, ⟨by omega, by omega⟩, by unfold R32; omega, fun q4 => ⟨fun q5 => go2 _ (.inr rfl) ?_, fun q5 => go2 _ (.inl rfl) ?_⟩, fun q4 => go2 _ (.inl rfl) ?_⟩, fun q3 => ⟨⟨by omega, by omega⟩, ⟨by omega, by omega⟩, by unfold R32; omega, fun q4 => ⟨fun q5 => go2 _ (.inr rfl) ?_, fun q5 => go2 _ (.inl rfl) ?_⟩, fun q4 => go2 _ (.inl rfl) ?_⟩⟩
        all_goals (split at s0 <;> (try split at s0) <;> omega)
      · rw [if_neg (by omega), if_pos (by omega)] at s1
        refine ⟨fun q3 => ⟨⟨by omega, by omega⟩, ⟨by omega, by omega⟩, by unfold R32; omega, fun q4 => ⟨fun q5 => go2 _ (.inl rfl) ?_, fun q5 => go2 _ (.inl rfl) ?_⟩, fun q4 => go2 _ (.inr rfl) ?_⟩, fun q3 => ⟨⟨by omega, by omega⟩, ⟨by omega, by omega⟩, by unfold R32; omega, fun q4 => ⟨fun q5 => go2 _ (.inl rfl) ?_, fun q5 => go2 _ (.inr rfl) ?_⟩, fun q4 => go2 _ (.inl rfl) ?_⟩⟩
        all_goals (split at s0 <;> (try split at s0) <;> omega)
      · rw [if_pos (by omega)] at s1
        refine ⟨fun q3 => ⟨⟨by omega, by omega⟩, ⟨by omega, by omega⟩, by unfold R32; omega, fun q4 => ⟨fun q5 => go2 _ (.inl rfl) ?_, fun q5 => go2 _ (.inr rfl) ?_⟩, fun q4 => go2 _ (.inl rfl) ?_⟩, fun q3 => ⟨⟨by omega, by omega⟩, ⟨by omega, by omega⟩, by unfold R32; omega, fun q4 => ⟨fun q5 => go2 _ (.inl rfl) ?_, fun q5 => go2 _ (.inl rfl) ?_⟩, fun q4 => go2 _ (.inr rfl) ?_⟩⟩
        all_goals (split at s0 <;> (try split at s0) <;> omega)
theorem K96 {h : HP} {w : Int → Int} {n i : Nat} {l : List Int} {p : Nat} (T : Tok b) (v : VV b h) (lk : LKd b h l) (m : MS h w n) (hn : n ≤ 8) (hi : i < n) (hk : 2 ≤ kR w (pos w i) ∧ kR w (pos w i) ≤ 9) (hp : p < l.length) : Wp X 1 96 0 [vr 89, vi i, vi p, vu, vu] [] h (fun vv h' => vv = some (vi (if kR w (pos w i) ≤ wf w (msq (mnV (VL b)) l) p (pos w i) then 1 else 0)) ∧ h' = h) := by
  have mi := m.2 i hi
  have hl20 := lk.2.1
  have t := T.1
  refine S96_89_0 _ _ ?_
  rw [mi.2.1]
  refine ⟨by unfold R32; omega, ⟨by omega, by omega⟩, fun q => ?_, fun q => ⟨?_, rfl⟩⟩
  · have x1 : (p : Int) - 1 = ((p - 1 : Nat) : Int) := by omega
    have l0 := lk.1 p (by omega)
    have l1 := lk.1 (p - 1) (by omega)
    have g0 := lk.2.2 _ (getD_mem (l := l) (i := p) (by omega))
    have g1 := lk.2.2 _ (getD_mem (l := l) (i := p - 1) (by omega))
    have v0 := (v.2.1 _ g0.1 g0.2).1
    have v1 := (v.2.1 _ g1.1 g1.2).1
    have r0 := mnV_r (VL_ok T) (l.getD p 0)
    have r1 := mnV_r (VL_ok T) (l.getD (p - 1) 0)
    have w0 : wy (msq (mnV (VL b)) l) p = sg (mnV (VL b) (l.getD p 0) - mnV (VL b) (l.getD (p - 1) 0)) := by
      obtain ⟨n', hn'⟩ : ∃ n', p = n' + 1 := ⟨p - 1, by omega⟩
      rw [hn', Nat.add_sub_cancel]
      rfl
    have f0 := wf_0 (w := w) (s := msq (mnV (VL b)) l) (a := pos w i) (p := p) (by omega)
    rw [w0] at f0
    have go : ∀ nf : Int, (nf = 0 ∨ nf = 1) → (nf = 1 ↔ sg (mnV (VL b) (l.getD p 0) - mnV (VL b) (l.getD (p - 1) 0)) ≠ 0) → Wp X 1 96 31 [vr 89, vi i, vi p, vi nf, vi p] [] h (fun vv h' => vv = some (vi (if kR w (pos w i) ≤ wf w (msq (mnV (VL b)) l) p (pos w i) then 1 else 0)) ∧ h' = h) := by
      intro nf a1 a2
      have g := L96 (X := X) T v lk m hn hi hk hp (by omega) (kR w (pos w i) - 2).toNat 0 nf (by omega) a1 (a2.trans (f0.symm.trans ⟨fun q => by omega, fun q => by omega⟩))
      rw [show (p : Int) - ((0 : Nat) : Int) = (p : Int) by omega] at g
      exact g
    rw [x1, l0, l1, v0, v1]
    refine ⟨⟨by omega, by omega⟩, ⟨by omega, by omega⟩, ⟨by omega, by omega⟩, ⟨by omega, by omega⟩, by unfold R32; omega, fun q1 => ⟨fun q2 => go _ (.inl rfl) ?_, fun q2 => go _ (.inr rfl) ?_⟩, fun q1 => go _ (.inr rfl) ?_⟩
    · unfold sg; rw [if_neg (by omega), if_neg (by omega)]; omega
    · unfold sg; rw [if_neg (by omega), if_pos (by omega)]; omega
    · unfold sg; rw [if_pos (by omega)]; omega
  · have := wf_r (w := w) (s := msq (mnV (VL b)) l) (p := p) (a := pos w i)
    rw [if_neg (by omega)]
theorem bys_skip {F : Int → Bool} {n : Nat} (hF : F n = false) : bys F (n + 1) = bys F n := if_neg (by rw [hF]; decide)
/-- by which rules a place of a row warns -/
theorem K97 {h : HP} {w : Int → Int} {n : Nat} {l : List Int} {p : Nat} (T : Tok b) (so : Sok b) (hP : P h = P b) (v : VV b h) (B : BB (mq5 b) (ob (mq5 b)) h) (hM : 0 < qM (mq5 b) (ob (mq5 b))) (lk : LKd b h l) (m : MS h w n) (hn : n ≤ 8) (ok : ∀ i : Nat, i < n → flt w (pos w i) = -1 ∧ 0 ≤ pos w i) (hp : p < l.length) : Wp X 3 97 0 [vr 89, vi p, vu, vu] [] h (fun vv h' => vv = some (vi (bys (RTi w (mnV (VL b)) (qsg (mq5 b)) l p) n : Int)) ∧ h' = h) := by
  have L : ∀ (k i : Nat), i + k = n → Wp X 3 97 4 [vr 89, vi p, vi (bys (RTi w (mnV (VL b)) (qsg (mq5 b)) l p) i : Int), vi i] [] h (fun vv h' => vv = some (vi (bys (RTi w (mnV (VL b)) (qsg (mq5 b)) l p) n : Int)) ∧ h' = h) := by
    intro k
    induction k with
    | zero =>
      intro i hi
      have hi : i = n := by omega
      subst hi
      exact S97_89_4 _ _ _ ⟨fun _ => ⟨rfl, rfl⟩, fun q => absurd q (by rw [m.1]; omega)⟩
    | succ k ih =>
      intro i hi
      have mi := m.2 i (by omega)
      have oki := ok i (by omega)
      have fo := flt_ok oki.2 oki.1
      have bl := bys_lt (F := RTi w (mnV (VL b)) (qsg (mq5 b)) l p) i
      have bl2 : 2 ^ i ≤ 2 ^ 8 := Nat.pow_le_pow_right (by decide) (by omega)
      have go0 : RTa w (mnV (VL b)) (qsg (mq5 b)) l p (pos w i) = false → Wp X 3 97 4 [vr 89, vi p, vi ((i32 (bys (RTi w (mnV (VL b)) (qsg (mq5 b)) l p) i : Int) ||| i32 0).toInt), vi ((i : Int) + 1)] [] h (fun vv h' => vv = some (vi (bys (RTi w (mnV (VL b)) (qsg (mq5 b)) l p) n : Int)) ∧ h' = h) := by
        intro q
        have e := or_N (a := bys (RTi w (mnV (VL b)) (qsg (mq5 b)) l p) i) (b := 0) (by omega) (by decide)
        rw [Nat.or_zero] at e
        have e : (i32 (bys (RTi w (mnV (VL b)) (qsg (mq5 b)) l p) i : Int) ||| i32 0).toInt = (bys (RTi w (mnV (VL b)) (qsg (mq5 b)) l p) i : Int) := e
        rw [e]
        have g := ih (i + 1) (by omega)
        rw [bys_skip (F := RTi w (mnV (VL b)) (qsg (mq5 b)) l p) (n := i) q] at g
        exact g
      have go1 : RTa w (mnV (VL b)) (qsg (mq5 b)) l p (pos w i) = true → Wp X 3 97 4 [vr 89, vi p, vi ((i32 (bys (RTi w (mnV (VL b)) (qsg (mq5 b)) l p) i : Int) ||| i32 ((i32 1 <<< (i32 (i : Int) &&& 31)).toInt)).toInt), vi ((i : Int) + 1)] [] h (fun vv h' => vv = some (vi (bys (RTi w (mnV (VL b)) (qsg (mq5 b)) l p) n : Int)) ∧ h' = h) := by
        intro q
        rw [bys_step (F := RTi w (mnV (VL b)) (qsg (mq5 b)) l p) (n := i) (by omega) q]
        exact ih (i + 1) (by omega)
      refine S97_89_4 _ _ _ ?_
      rw [m.1, mi.1]
      refine ⟨fun q => absurd q (by omega), fun _ => ⟨⟨by omega, by omega⟩, fun hz => ?_, fun hz => ?_⟩⟩
      · have kk : 2 ≤ kR w (pos w i) ∧ kR w (pos w i) ≤ 9 := by omega
        refine (K96 T v lk m hn (by omega) kk hp).mono fun vv h1 _ e => ?_
        obtain ⟨rfl, rfl⟩ := e
        have rt : RTa w (mnV (VL b)) (qsg (mq5 b)) l p (pos w i) = decide (kR w (pos w i) ≤ wf w (msq (mnV (VL b)) l) p (pos w i)) := by
          unfold RTa wf
          rw [if_neg hz]
          split <;> rfl
        refine S97_89_42 _ _ _ _ _ ⟨fun q => ⟨by unfold R32; omega, go0 ?_⟩, fun q => ⟨by unfold R32; omega, go1 ?_⟩⟩
        · rw [rt]
          refine decide_eq_false fun c => ?_
          rw [if_pos c] at q; exact absurd q (by decide)
        · rw [rt]
          refine decide_eq_true ?_
          by_cases c : kR w (pos w i) ≤ wf w (msq (mnV (VL b)) l) p (pos w i)
          · exact c
          · rw [if_neg c] at q; exact absurd rfl q
      · have g := L94 (X := X) T so hP v B hM lk m hn (by omega) oki.2 oki.1 hz hp (nR w (pos w i)).toNat 0 vu vu (by omega) (by omega)
        rw [show (p : Int) - ((0 : Nat) : Int) = (p : Int) by omega] at g
        refine (S94_89_0 _ _ g).mono fun vv h1 _ e => ?_
        obtain ⟨rfl, rfl⟩ := e
        refine S97_89_30 _ _ _ _ _ ⟨fun q => ⟨by unfold R32; omega, go0 ?_⟩, fun q => ⟨by unfold R32; omega, go1 ?_⟩⟩
        · cases c : RTa w (mnV (VL b)) (qsg (mq5 b)) l p (pos w i)
          · rfl
          · rw [c] at q; exact absurd q (by decide)
        · cases c : RTa w (mnV (VL b)) (qsg (mq5 b)) l p (pos w i)
          · rw [c] at q; exact absurd rfl q
          · rfl
  exact S97_89_0 _ (L n 0 (by omega))
end
