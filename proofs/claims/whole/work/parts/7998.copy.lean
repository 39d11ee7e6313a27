-- ===== copy, write, count =====
def fCp (t : Int) (a : Nat) (j : Int) : Prop := a = 93 ∨ (a = 92 ∧ 60 * t ≤ j ∧ j < 60 * t + 60)
section
variable {X : Nat × (Int → Int)}
theorem M59 {h1 : HP} {Q : bQ} {s i t j n : Int} (hs : 0 ≤ s ∧ s ≤ 3) (ht : 0 ≤ t ∧ t ≤ 3) (hi : 0 ≤ i) (hj : 0 ≤ j) (hn : 0 ≤ n) (h1s : i + n ≤ 60) (h1t : j + n ≤ 60) (cont : ∀ h3, Fr (fCp t) h1 h3 → (∀ y, h3 92 y = if 60 * t + j ≤ y ∧ y < 60 * t + j + n then h1 92 (60 * s + i + (y - (60 * t + j))) else h1 92 y) → Q (some (vi 1)) h3) : Wp X 2 59 120 [vr 89, vi s, vi i, vi t, vi j, vi n, vi 0] [] h1 Q := by
  have L2 : ∀ (k a : Nat) (h2 : HP) (z1 z2 : aV), (a : Int) + k = n → Fr (fCp t) h1 h2 → (∀ b : Int, 0 ≤ b → b < n → h2 93 b = h1 92 (60 * s + i + b)) → (∀ y, h2 92 y = if 60 * t + j ≤ y ∧ y < 60 * t + j + a then h1 92 (60 * s + i + (y - (60 * t + j))) else h1 92 y) → Wp X 2 59 157 [vr 89, z1, z2, vi t, vi j, vi n, vi a] [] h2 Q := by
    intro k
    induction k with
    | zero =>
      intro a h2 z1 z2 ha F m e
      refine S59_89_157 _ _ _ _ _ _ ⟨fun _ => cont h2 F (fun y => ?_), fun c => absurd c (by omega)⟩
      rw [e y, show (a : Int) = n by omega]
    | succ k ih =>
      intro a h2 z1 z2 ha F m e
      refine S59_89_157 _ _ _ _ _ _ ⟨fun c => absurd c (by omega), fun _ => ⟨by unfold R32; omega, by unfold R32; omega, by unfold R32; omega, by omega, by omega, ih (a + 1) _ z1 z2 (by omega) (F.up (by unfold fCp; omega)) (fun b b1 b2 => ?_) (fun y => ?_)⟩⟩
      · rw [upd2_ne (by decide)]; exact m b b1 b2
      · rw [upd2_at, m a (by omega) (by omega)]
        by_cases w : y = 60 * t + j + a
        · rw [if_pos w, if_pos (by omega), show y - (60 * t + j) = (a : Int) by omega]
        · rw [if_neg w, e y]
          by_cases w2 : 60 * t + j ≤ y ∧ y < 60 * t + j + a
          · rw [if_pos w2, if_pos (by omega)]
          · rw [if_neg w2, if_neg (by omega)]
  have L1 : ∀ (k a : Nat) (h2 : HP), (a : Int) + k = n → Fr (fun c _ => c = 93) h1 h2 → (∀ b : Int, 0 ≤ b → b < a → h2 93 b = h1 92 (60 * s + i + b)) → Wp X 2 59 120 [vr 89, vi s, vi i, vi t, vi j, vi n, vi a] [] h2 Q := by
    intro k
    induction k with
    | zero =>
      intro a h2 ha F m
      refine S59_89_120 _ _ _ _ _ _ ⟨fun _ => L2 n.toNat 0 h2 _ _ (by omega) (F.mo fun c d q => .inl q) (fun b b1 b2 => m b b1 (by omega)) (fun y => ?_), fun c => absurd c (by omega)⟩
      rw [if_neg (by omega)]
      exact F _ _ (by omega)
    | succ k ih =>
      intro a h2 ha F m
      refine S59_89_120 _ _ _ _ _ _ ⟨fun c => absurd c (by omega), fun _ => ⟨by unfold R32; omega, by unfold R32; omega, by unfold R32; omega, by omega, by omega, ih (a + 1) _ (by omega) (F.up rfl) (fun b b1 b2 => ?_)⟩⟩
      rw [upd2_at, F _ _ (by omega)]
      by_cases w : b = a
      · rw [if_pos w, w]
      · rw [if_neg w]; exact m b b1 (by omega)
  exact L1 n.toNat 0 h1 (by omega) Fr.rf (fun b b1 b2 => absurd b2 (by omega))
theorem cp11 {h : HP} (iv : Inv h) {s i t j n : Int} (hs : 0 ≤ s ∧ s ≤ 3) (ht : 0 ≤ t ∧ t ≤ 3) (c : h 90 s < 0 ∨ h 90 t < 0) : AgP X 2 59 [vr 89, vi s, vi i, vi t, vi j, vi n, vu] (some (vi (-11))) (upd2 h 6 10 1) := by
  refine ⟨-11, rfl, T59_89_0 _ _ _ _ _ ?_⟩
  rw [upd2_ne (a := 6) (b := 90) (by decide), upd2_ne (a := 6) (b := 91) (by decide)]
  exact ⟨fun c => absurd c (by omega), fun _ => ⟨fun c => absurd c (by omega), fun _ => ⟨fun c => absurd c (by omega), fun _ => ⟨fun c => absurd c (by omega), fun _ => ⟨by omega, fun _ => ⟨rfl, fnd iv (by omega)⟩, fun _ => ⟨by omega, fun c => absurd c (by omega), fun _ => ⟨rfl, fnd iv (by omega)⟩⟩⟩⟩⟩⟩⟩
theorem cp14 {h : HP} (iv : Inv h) {s i t j n : Int} (hs : 0 ≤ s ∧ s ≤ 3) (ht : 0 ≤ t ∧ t ≤ 3) (c : 0 ≤ h 90 s ∧ 0 ≤ h 90 t ∧ h 90 s ≠ h 90 t) : AgP X 2 59 [vr 89, vi s, vi i, vi t, vi j, vi n, vu] (some (vi (-14))) (upd2 h 6 10 4) := by
  refine ⟨-14, rfl, T59_89_0 _ _ _ _ _ ?_⟩
  rw [upd2_ne (a := 6) (b := 90) (by decide), upd2_ne (a := 6) (b := 91) (by decide)]
  exact ⟨fun c => absurd c (by omega), fun _ => ⟨fun c => absurd c (by omega), fun _ => ⟨fun c => absurd c (by omega), fun _ => ⟨fun c => absurd c (by omega), fun _ => ⟨by omega, fun c => absurd c (by omega), fun _ => ⟨by omega, fun _ => ⟨fun c => absurd c (by omega), fun _ => ⟨rfl, fnd iv (by omega)⟩⟩, fun c => absurd c (by omega)⟩⟩⟩⟩⟩⟩
theorem cp12 {h : HP} (iv : Inv h) {s i t j n : Int} (hs : 0 ≤ s ∧ s ≤ 3) (ht : 0 ≤ t ∧ t ≤ 3) (ri : R32 i) (rj : R32 j) (rn : R32 n) (c : 0 ≤ h 90 s ∧ 0 ≤ h 90 t ∧ h 90 s = h 90 t) (d : i < 0 ∨ j < 0 ∨ n < 0 ∨ h 91 s - n < i ∨ h 91 t - n < j) : AgP X 2 59 [vr 89, vi s, vi i, vi t, vi j, vi n, vu] (some (vi (-12))) (upd2 h 6 10 2) := by
  unfold R32 at ri rj rn
  refine ⟨-12, rfl, T59_89_0 _ _ _ _ _ ?_⟩
  rw [upd2_ne (a := 6) (b := 90) (by decide), upd2_ne (a := 6) (b := 91) (by decide)]
  exact ⟨fun c => absurd c (by omega), fun _ => ⟨fun c => absurd c (by omega), fun _ => ⟨fun c => absurd c (by omega), fun _ => ⟨fun c => absurd c (by omega), fun _ => ⟨by omega, fun c => absurd c (by omega), fun _ => ⟨by omega, fun _ => ⟨fun _ => ⟨fun _ => ⟨rfl, fnd iv (by omega)⟩, fun a1 => ⟨fun _ => ⟨rfl, fnd iv (by omega)⟩, fun a2 => ⟨fun _ => ⟨rfl, fnd iv (by omega)⟩, fun a3 => ⟨by unfold R64; omega, fun _ => ⟨rfl, fnd iv (by omega)⟩, fun a4 => ⟨by unfold R64; omega, fun a5 => absurd d (by omega), fun _ => ⟨rfl, fnd iv (by omega)⟩⟩⟩⟩⟩⟩, fun c => absurd c (by omega)⟩, fun c => absurd c (by omega)⟩⟩⟩⟩⟩⟩
theorem cpok_81 {h : HP} (iv : Inv h) {I : Nat} {s i j n : Int} (hs : 0 ≤ s ∧ s ≤ 3) (c : 0 ≤ h 90 s ∧ 0 ≤ h 90 0 ∧ h 90 s = h 90 0) (hz : h 91 s ≤ 60) (hI : ∀ q : Int, 0 ≤ q → q < h 91 s → h I q = h 92 (60 * s + q) ∧ R32 (h 92 (60 * s + q))) (d : 0 ≤ i ∧ 0 ≤ j ∧ 0 ≤ n ∧ i ≤ h 91 s - n ∧ j ≤ h 91 0 - n) : AgP X 2 59 [vr 89, vi s, vi i, vi 0, vi j, vi n, vu] (some (vi 1)) (cpyH h 82 j I i n) := by
  have st := sh_of_81 iv
  have t5 := st.2.2.2.2.1
  obtain ⟨t6, t7⟩ := st.2.2.2.2.2 c.2.1
  have F : Fr (fun a _ => a = 82) h (cpyH h 82 j I i n) := fun a b q => by rw [cpyH_o q]
  have rI : ∀ q, cpyH h 82 j I i n 82 q = if j ≤ q ∧ q < j + n then h I (i + (q - j)) else h 82 q := fun q => by
    unfold cpyH
    by_cases w : j ≤ q ∧ q < j + n
    · rw [if_pos ⟨rfl, w⟩, if_pos w]
    · rw [if_neg (fun c => w c.2), if_neg w]
  generalize cpyH h 82 j I i n = h1 at F rI
  refine ⟨1, rfl, T59_89_0 _ _ _ _ _ ?_⟩
  rw [F 90 _ (by omega), F 90 _ (by omega), F 91 _ (by omega), F 91 _ (by omega)]
  have go : Wp X 2 59 120 [vr 89, vi s, vi i, vi 0, vi j, vi n, vi 0] [] h1 (fun r2 h2 => r2 = some (vi 1) ∧ Inv h2) := by
    refine M59 hs (by omega) d.1 d.2.1 d.2.2.1 (by omega) (by omega) (fun h3 F3 e => ⟨rfl, ?_⟩)
    have G : Fr (fSh 81 0) h h3 := (F.mo fun a b q => by unfold fSh; omega).tr (F3.mo fun a b q => by unfold fCp at q; unfold fSh; omega)
    have e90 : h3 90 0 = h 90 0 := (F3 _ _ (by unfold fCp; omega)).trans (F _ _ (by omega))
    have e91 : h3 91 0 = h 91 0 := (F3 _ _ (by unfold fCp; omega)).trans (F _ _ (by omega))
    have eS1 : h3 81 1 = h 81 1 := (F3 _ _ (by unfold fCp; omega)).trans (F _ _ (by omega))
    have eS2 : h3 81 2 = h 81 2 := (F3 _ _ (by unfold fCp; omega)).trans (F _ _ (by omega))
    refine sh_inv_81 iv G ?_
    unfold I_sh
    rw [e90, e91, eS1, eS2]
    refine ⟨st.1, st.2.1, st.2.2.1, st.2.2.2.1, t5, fun _ => ⟨t6, fun q q1 q2 => ?_⟩⟩
    have e1 : h3 (81 + 1) q = h1 82 q := F3 _ _ (by unfold fCp; omega)
    rw [e1, rI, e, F 92 _ (by omega), F 92 _ (by omega)]
    by_cases w : j ≤ q ∧ q < j + n
    · rw [if_pos w, if_pos (by omega), show 60 * s + i + (60 * 0 + q - (60 * 0 + j)) = 60 * s + (i + (q - j)) by omega]
      exact hI _ (by omega) (by omega)
    · rw [if_neg w, if_neg (by omega)]
      exact t7 q q1 q2
  exact ⟨fun c => absurd c (by omega), fun _ => ⟨fun c => absurd c (by omega), fun _ => ⟨fun c => absurd c (by omega), fun _ => ⟨fun c => absurd c (by omega), fun _ => ⟨by omega, fun c => absurd c (by omega), fun _ => ⟨by omega, fun _ => ⟨fun _ => ⟨fun c => absurd c (by omega), fun a1 => ⟨fun c => absurd c (by omega), fun a2 => ⟨fun c => absurd c (by omega), fun a3 => ⟨by unfold R64; omega, fun c => absurd c (by omega), fun a4 => ⟨by unfold R64; omega, fun _ => go, fun c => absurd c (by omega)⟩⟩⟩⟩⟩, fun c => absurd c (by omega)⟩, fun c => absurd c (by omega)⟩⟩⟩⟩⟩⟩
theorem cpok_83 {h : HP} (iv : Inv h) {I : Nat} {s i j n : Int} (hs : 0 ≤ s ∧ s ≤ 3) (c : 0 ≤ h 90 s ∧ 0 ≤ h 90 1 ∧ h 90 s = h 90 1) (hz : h 91 s ≤ 60) (hI : ∀ q : Int, 0 ≤ q → q < h 91 s → h I q = h 92 (60 * s + q) ∧ R32 (h 92 (60 * s + q))) (d : 0 ≤ i ∧ 0 ≤ j ∧ 0 ≤ n ∧ i ≤ h 91 s - n ∧ j ≤ h 91 1 - n) : AgP X 2 59 [vr 89, vi s, vi i, vi 1, vi j, vi n, vu] (some (vi 1)) (cpyH h 84 j I i n) := by
  have st := sh_of_83 iv
  have t5 := st.2.2.2.2.1
  obtain ⟨t6, t7⟩ := st.2.2.2.2.2 c.2.1
  have F : Fr (fun a _ => a = 84) h (cpyH h 84 j I i n) := fun a b q => by rw [cpyH_o q]
  have rI : ∀ q, cpyH h 84 j I i n 84 q = if j ≤ q ∧ q < j + n then h I (i + (q - j)) else h 84 q := fun q => by
    unfold cpyH
    by_cases w : j ≤ q ∧ q < j + n
    · rw [if_pos ⟨rfl, w⟩, if_pos w]
    · rw [if_neg (fun c => w c.2), if_neg w]
  generalize cpyH h 84 j I i n = h1 at F rI
  refine ⟨1, rfl, T59_89_0 _ _ _ _ _ ?_⟩
  rw [F 90 _ (by omega), F 90 _ (by omega), F 91 _ (by omega), F 91 _ (by omega)]
  have go : Wp X 2 59 120 [vr 89, vi s, vi i, vi 1, vi j, vi n, vi 0] [] h1 (fun r2 h2 => r2 = some (vi 1) ∧ Inv h2) := by
    refine M59 hs (by omega) d.1 d.2.1 d.2.2.1 (by omega) (by omega) (fun h3 F3 e => ⟨rfl, ?_⟩)
    have G : Fr (fSh 83 1) h h3 := (F.mo fun a b q => by unfold fSh; omega).tr (F3.mo fun a b q => by unfold fCp at q; unfold fSh; omega)
    have e90 : h3 90 1 = h 90 1 := (F3 _ _ (by unfold fCp; omega)).trans (F _ _ (by omega))
    have e91 : h3 91 1 = h 91 1 := (F3 _ _ (by unfold fCp; omega)).trans (F _ _ (by omega))
    have eS1 : h3 83 1 = h 83 1 := (F3 _ _ (by unfold fCp; omega)).trans (F _ _ (by omega))
    have eS2 : h3 83 2 = h 83 2 := (F3 _ _ (by unfold fCp; omega)).trans (F _ _ (by omega))
    refine sh_inv_83 iv G ?_
    unfold I_sh
    rw [e90, e91, eS1, eS2]
    refine ⟨st.1, st.2.1, st.2.2.1, st.2.2.2.1, t5, fun _ => ⟨t6, fun q q1 q2 => ?_⟩⟩
    have e1 : h3 (83 + 1) q = h1 84 q := F3 _ _ (by unfold fCp; omega)
    rw [e1, rI, e, F 92 _ (by omega), F 92 _ (by omega)]
    by_cases w : j ≤ q ∧ q < j + n
    · rw [if_pos w, if_pos (by omega), show 60 * s + i + (60 * 1 + q - (60 * 1 + j)) = 60 * s + (i + (q - j)) by omega]
      exact hI _ (by omega) (by omega)
    · rw [if_neg w, if_neg (by omega)]
      exact t7 q q1 q2
  exact ⟨fun c => absurd c (by omega), fun _ => ⟨fun c => absurd c (by omega), fun _ => ⟨fun c => absurd c (by omega), fun _ => ⟨fun c => absurd c (by omega), fun _ => ⟨by omega, fun c => absurd c (by omega), fun _ => ⟨by omega, fun _ => ⟨fun _ => ⟨fun c => absurd c (by omega), fun a1 => ⟨fun c => absurd c (by omega), fun a2 => ⟨fun c => absurd c (by omega), fun a3 => ⟨by unfold R64; omega, fun c => absurd c (by omega), fun a4 => ⟨by unfold R64; omega, fun _ => go, fun c => absurd c (by omega)⟩⟩⟩⟩⟩, fun c => absurd c (by omega)⟩, fun c => absurd c (by omega)⟩⟩⟩⟩⟩⟩
theorem cpok_85 {h : HP} (iv : Inv h) {I : Nat} {s i j n : Int} (hs : 0 ≤ s ∧ s ≤ 3) (c : 0 ≤ h 90 s ∧ 0 ≤ h 90 2 ∧ h 90 s = h 90 2) (hz : h 91 s ≤ 60) (hI : ∀ q : Int, 0 ≤ q → q < h 91 s → h I q = h 92 (60 * s + q) ∧ R32 (h 92 (60 * s + q))) (d : 0 ≤ i ∧ 0 ≤ j ∧ 0 ≤ n ∧ i ≤ h 91 s - n ∧ j ≤ h 91 2 - n) : AgP X 2 59 [vr 89, vi s, vi i, vi 2, vi j, vi n, vu] (some (vi 1)) (cpyH h 86 j I i n) := by
  have st := sh_of_85 iv
  have t5 := st.2.2.2.2.1
  obtain ⟨t6, t7⟩ := st.2.2.2.2.2 c.2.1
  have F : Fr (fun a _ => a = 86) h (cpyH h 86 j I i n) := fun a b q => by rw [cpyH_o q]
  have rI : ∀ q, cpyH h 86 j I i n 86 q = if j ≤ q ∧ q < j + n then h I (i + (q - j)) else h 86 q := fun q => by
    unfold cpyH
    by_cases w : j ≤ q ∧ q < j + n
    · rw [if_pos ⟨rfl, w⟩, if_pos w]
    · rw [if_neg (fun c => w c.2), if_neg w]
  generalize cpyH h 86 j I i n = h1 at F rI
  refine ⟨1, rfl, T59_89_0 _ _ _ _ _ ?_⟩
  rw [F 90 _ (by omega), F 90 _ (by omega), F 91 _ (by omega), F 91 _ (by omega)]
  have go : Wp X 2 59 120 [vr 89, vi s, vi i, vi 2, vi j, vi n, vi 0] [] h1 (fun r2 h2 => r2 = some (vi 1) ∧ Inv h2) := by
    refine M59 hs (by omega) d.1 d.2.1 d.2.2.1 (by omega) (by omega) (fun h3 F3 e => ⟨rfl, ?_⟩)
    have G : Fr (fSh 85 2) h h3 := (F.mo fun a b q => by unfold fSh; omega).tr (F3.mo fun a b q => by unfold fCp at q; unfold fSh; omega)
    have e90 : h3 90 2 = h 90 2 := (F3 _ _ (by unfold fCp; omega)).trans (F _ _ (by omega))
    have e91 : h3 91 2 = h 91 2 := (F3 _ _ (by unfold fCp; omega)).trans (F _ _ (by omega))
    have eS1 : h3 85 1 = h 85 1 := (F3 _ _ (by unfold fCp; omega)).trans (F _ _ (by omega))
    have eS2 : h3 85 2 = h 85 2 := (F3 _ _ (by unfold fCp; omega)).trans (F _ _ (by omega))
    refine sh_inv_85 iv G ?_
    unfold I_sh
    rw [e90, e91, eS1, eS2]
    refine ⟨st.1, st.2.1, st.2.2.1, st.2.2.2.1, t5, fun _ => ⟨t6, fun q q1 q2 => ?_⟩⟩
    have e1 : h3 (85 + 1) q = h1 86 q := F3 _ _ (by unfold fCp; omega)
    rw [e1, rI, e, F 92 _ (by omega), F 92 _ (by omega)]
    by_cases w : j ≤ q ∧ q < j + n
    · rw [if_pos w, if_pos (by omega), show 60 * s + i + (60 * 2 + q - (60 * 2 + j)) = 60 * s + (i + (q - j)) by omega]
      exact hI _ (by omega) (by omega)
    · rw [if_neg w, if_neg (by omega)]
      exact t7 q q1 q2
  exact ⟨fun c => absurd c (by omega), fun _ => ⟨fun c => absurd c (by omega), fun _ => ⟨fun c => absurd c (by omega), fun _ => ⟨fun c => absurd c (by omega), fun _ => ⟨by omega, fun c => absurd c (by omega), fun _ => ⟨by omega, fun _ => ⟨fun _ => ⟨fun c => absurd c (by omega), fun a1 => ⟨fun c => absurd c (by omega), fun a2 => ⟨fun c => absurd c (by omega), fun a3 => ⟨by unfold R64; omega, fun c => absurd c (by omega), fun a4 => ⟨by unfold R64; omega, fun _ => go, fun c => absurd c (by omega)⟩⟩⟩⟩⟩, fun c => absurd c (by omega)⟩, fun c => absurd c (by omega)⟩⟩⟩⟩⟩⟩
theorem cpok_87 {h : HP} (iv : Inv h) {I : Nat} {s i j n : Int} (hs : 0 ≤ s ∧ s ≤ 3) (c : 0 ≤ h 90 s ∧ 0 ≤ h 90 3 ∧ h 90 s = h 90 3) (hz : h 91 s ≤ 60) (hI : ∀ q : Int, 0 ≤ q → q < h 91 s → h I q = h 92 (60 * s + q) ∧ R32 (h 92 (60 * s + q))) (d : 0 ≤ i ∧ 0 ≤ j ∧ 0 ≤ n ∧ i ≤ h 91 s - n ∧ j ≤ h 91 3 - n) : AgP X 2 59 [vr 89, vi s, vi i, vi 3, vi j, vi n, vu] (some (vi 1)) (cpyH h 88 j I i n) := by
  have st := sh_of_87 iv
  have t5 := st.2.2.2.2.1
  obtain ⟨t6, t7⟩ := st.2.2.2.2.2 c.2.1
  have F : Fr (fun a _ => a = 88) h (cpyH h 88 j I i n) := fun a b q => by rw [cpyH_o q]
  have rI : ∀ q, cpyH h 88 j I i n 88 q = if j ≤ q ∧ q < j + n then h I (i + (q - j)) else h 88 q := fun q => by
    unfold cpyH
    by_cases w : j ≤ q ∧ q < j + n
    · rw [if_pos ⟨rfl, w⟩, if_pos w]
    · rw [if_neg (fun c => w c.2), if_neg w]
  generalize cpyH h 88 j I i n = h1 at F rI
  refine ⟨1, rfl, T59_89_0 _ _ _ _ _ ?_⟩
  rw [F 90 _ (by omega), F 90 _ (by omega), F 91 _ (by omega), F 91 _ (by omega)]
  have go : Wp X 2 59 120 [vr 89, vi s, vi i, vi 3, vi j, vi n, vi 0] [] h1 (fun r2 h2 => r2 = some (vi 1) ∧ Inv h2) := by
    refine M59 hs (by omega) d.1 d.2.1 d.2.2.1 (by omega) (by omega) (fun h3 F3 e => ⟨rfl, ?_⟩)
    have G : Fr (fSh 87 3) h h3 := (F.mo fun a b q => by unfold fSh; omega).tr (F3.mo fun a b q => by unfold fCp at q; unfold fSh; omega)
    have e90 : h3 90 3 = h 90 3 := (F3 _ _ (by unfold fCp; omega)).trans (F _ _ (by omega))
    have e91 : h3 91 3 = h 91 3 := (F3 _ _ (by unfold fCp; omega)).trans (F _ _ (by omega))
    have eS1 : h3 87 1 = h 87 1 := (F3 _ _ (by unfold fCp; omega)).trans (F _ _ (by omega))
    have eS2 : h3 87 2 = h 87 2 := (F3 _ _ (by unfold fCp; omega)).trans (F _ _ (by omega))
    refine sh_inv_87 iv G ?_
    unfold I_sh
    rw [e90, e91, eS1, eS2]
    refine ⟨st.1, st.2.1, st.2.2.1, st.2.2.2.1, t5, fun _ => ⟨t6, fun q q1 q2 => ?_⟩⟩
    have e1 : h3 (87 + 1) q = h1 88 q := F3 _ _ (by unfold fCp; omega)
    rw [e1, rI, e, F 92 _ (by omega), F 92 _ (by omega)]
    by_cases w : j ≤ q ∧ q < j + n
    · rw [if_pos w, if_pos (by omega), show 60 * s + i + (60 * 3 + q - (60 * 3 + j)) = 60 * s + (i + (q - j)) by omega]
      exact hI _ (by omega) (by omega)
    · rw [if_neg w, if_neg (by omega)]
      exact t7 q q1 q2
  exact ⟨fun c => absurd c (by omega), fun _ => ⟨fun c => absurd c (by omega), fun _ => ⟨fun c => absurd c (by omega), fun _ => ⟨fun c => absurd c (by omega), fun _ => ⟨by omega, fun c => absurd c (by omega), fun _ => ⟨by omega, fun _ => ⟨fun _ => ⟨fun c => absurd c (by omega), fun a1 => ⟨fun c => absurd c (by omega), fun a2 => ⟨fun c => absurd c (by omega), fun a3 => ⟨by unfold R64; omega, fun c => absurd c (by omega), fun a4 => ⟨by unfold R64; omega, fun _ => go, fun c => absurd c (by omega)⟩⟩⟩⟩⟩, fun c => absurd c (by omega)⟩, fun c => absurd c (by omega)⟩⟩⟩⟩⟩⟩
-- count
def B_count (h : HP) (what : Int) : Int := if what = 0 then h 89 5 else if what = 1 then h 89 5 - (rwl (VL h) (gn h)).length else if what = 2 then h 89 6 else if what = 3 then su (fun g => cnp (VL h) g 5) (gn h) else if what = 4 then h 89 38 else if what = 5 then h 104 0 else if what = 6 then h 104 1 else if what = 7 then h 97 3 else if what = 8 then h 89 4 else -2
theorem C30 {h : HP} (i : Inv h) (y1 : Int) : Wp X 1 30 0 [vr 6, vi y1] [] h (fun r h1 => r = some (vi (B_count h y1)) ∧ h1 = h) := by
  have t := i.tok.1
  have g8 := i.g8
  have cv := i.cv
  have r := i.row
  have rl := rwl_len (V := VL h) (gn h)
  have xx := i.1.2.2.2.1
  have gl : ((gn h : Nat) : Int) = h 89 5 := by unfold gn; omega
  refine S30_6_0 _ ⟨fun q0 => ⟨?_, rfl⟩, fun n0 => ⟨fun q1 => ⟨by rw [r.1]; unfold R32; omega, ?_, rfl⟩, fun n1 => ⟨fun q2 => ⟨?_, rfl⟩, fun n2 => ⟨fun q3 => ⟨?_, rfl⟩, fun n3 => ⟨fun q4 => ⟨?_, rfl⟩, fun n4 => ⟨fun q5 => ⟨?_, rfl⟩, fun n5 => ⟨fun q6 => ⟨?_, rfl⟩, fun n6 => ⟨fun q7 => ⟨?_, rfl⟩, fun n7 => ⟨fun q8 => ⟨?_, rfl⟩, fun n8 => ⟨?_, rfl⟩⟩⟩⟩⟩⟩⟩⟩⟩⟩
  all_goals unfold B_count
  · rw [if_pos q0, g8]
  · rw [if_neg n0, if_pos q1, g8, r.1]
  · rw [if_neg n0, if_neg n1, if_pos q2, i.1.2.1.2.2.2.2.1]
  · rw [if_neg n0, if_neg n1, if_neg n2, if_pos q3, cv.2]; rfl
  · rw [if_neg n0, if_neg n1, if_neg n2, if_neg n3, if_pos q4, i.1.2.2.2.2.2.1.2.2.1]
  · rw [if_neg n0, if_neg n1, if_neg n2, if_neg n3, if_neg n4, if_pos q5, xx.2.1.1]
  · rw [if_neg n0, if_neg n1, if_neg n2, if_neg n3, if_neg n4, if_neg n5, if_pos q6, xx.2.2.1]
  · rw [if_neg n0, if_neg n1, if_neg n2, if_neg n3, if_neg n4, if_neg n5, if_neg n6, if_pos q7, i.1.1.1 3 (by omega) (by omega)]
  · rw [if_neg n0, if_neg n1, if_neg n2, if_neg n3, if_neg n4, if_neg n5, if_neg n6, if_neg n7, if_pos q8, i.1.2.2.2.2.2.2.2.2.2]
  · rw [if_neg n0, if_neg n1, if_neg n2, if_neg n3, if_neg n4, if_neg n5, if_neg n6, if_neg n7, if_neg n8]
theorem su5 {V : Int → Int} : ∀ n : Nat, su (fun k => if V k = -1 then 0 else 1) (5 * n) = su (fun g => cnp V g 5) n
  | 0 => rfl
  | n + 1 => by
    have e : 5 * (n + 1) = 5 * n + 1 + 1 + 1 + 1 + 1 := by omega
    rw [e]
    show su _ (5 * n) + _ + _ + _ + _ + _ = su _ n + cnp V n 5
    rw [su5 n]
    simp only [cnp]
    have q : ∀ d : Nat, ((5 * n + d : Nat) : Int) = 5 * (n : Int) + (d : Int) := fun d => by omega
    have q0 := q 0
    have q1 := q 1
    have q2 := q 2
    have q3 := q 3
    have q4 := q 4
    rw [show 5 * n + 1 + 1 + 1 + 1 = 5 * n + 4 by omega, show 5 * n + 1 + 1 + 1 = 5 * n + 3 by omega, show 5 * n + 1 + 1 = 5 * n + 2 by omega, q1, q2, q3, q4, show ((5 * n : Nat) : Int) = 5 * (n : Int) + ((0 : Nat) : Int) by omega]
    omega
theorem M133 {h h1 : HP} (i : Inv h) (e : P h1 = P h) (y1 : Int) : Wp X 1 133 0 [vr 89, vi y1, vu, vu] [] h1 (fun r h2 => r = some (vi (B_count h y1)) ∧ Fr fM h1 h2) := by
  have t := i.tok.1
  have gl : ((gn h : Nat) : Int) = h 89 5 := by unfold gn; omega
  have rl := rwl_len (V := VL h) (gn h)
  have e5 : h1 89 5 = h 89 5 := congrFun (congrFun e 89) 5
  have e6 : h1 89 6 = h 89 6 := congrFun (congrFun e 89) 6
  have e38 : h1 89 38 = h 89 38 := congrFun (congrFun e 89) 38
  have e4 : h1 89 4 = h 89 4 := congrFun (congrFun e 89) 4
  have e97 : h1 97 3 = h 97 3 := congrFun (congrFun e 97) 3
  have e104 : ∀ j, h1 104 j = h 104 j := fun j => congrFun (congrFun e 104) j
  have hV := VL_ok i.tok
  refine S133_89_0 _ ⟨fun q0 => ⟨?_, Fr.rf⟩, fun n0 => ⟨fun q1 => (K70 e i.tok).mono fun r h2 _ f => ?_, fun n1 => ⟨fun q2 => ⟨?_, Fr.rf⟩, fun n2 => ⟨fun q3 => (K70 e i.tok).mono fun r h2 _ f => ?_, fun n3 => ⟨fun q4 => ⟨?_, Fr.rf⟩, fun n4 => ⟨fun q5 => ⟨?_, Fr.rf⟩, fun n5 => ⟨fun q6 => ⟨?_, Fr.rf⟩, fun n6 => ⟨fun q7 => ⟨?_, Fr.rf⟩, fun n7 => ⟨fun q8 => ⟨?_, Fr.rf⟩, fun n8 => ⟨?_, Fr.rf⟩⟩⟩⟩⟩⟩⟩⟩⟩⟩
  · unfold B_count; rw [if_pos q0, e5]
  · obtain ⟨rfl, e2, F, v⟩ := f
    have f5 : h2 89 5 = h 89 5 := congrFun (congrFun e2 89) 5
    refine S133_89_61 _ _ ⟨by rw [f5, v.2.2.2]; unfold R32; omega, ?_, F.mo fun _ _ c => fV_M c⟩
    unfold B_count
    rw [if_neg n0, if_pos q1, f5, v.2.2.2]
  · unfold B_count; rw [if_neg n0, if_neg n1, if_pos q2, e6]
  · obtain ⟨rfl, e2, F, v⟩ := f
    have tot : su (fun k => if VL h k = -1 then 0 else 1) 100 = su (fun g => cnp (VL h) g 5) (gn h) := by
      rw [← su5 (gn h)]
      refine su_ext (by omega) (fun k a c => ?_)
      rw [if_pos (VL_out i.tok (by omega))]
    have L : ∀ (k j : Nat) (z : aV), j + k = 100 → Wp X 1 133 82 [vr 89, z, vi (su (fun k => if VL h k = -1 then 0 else 1) j), vi j] [] h2 (fun r h2 => r = some (vi (B_count h y1)) ∧ Fr fM h1 h2) := by
      intro k
      induction k with
      | zero =>
        intro j z hj
        have hj : j = 100 := by omega
        subst hj
        refine S133_89_82 _ _ _ ⟨fun _ => ⟨?_, F.mo fun _ _ c => fV_M c⟩, fun c => absurd c (by omega)⟩
        unfold B_count
        rw [if_neg n0, if_neg n1, if_neg n2, if_pos q3, tot]
      | succ k ih =>
        intro j z hj
        have s0 := su_nn (f := fun k => if VL h k = -1 then 0 else 1) (n := j) (fun i _ => by show (0 : Int) ≤ if _ then _ else _; split <;> omega)
        have s1 := su_le (f := fun k => if VL h k = -1 then 0 else 1) (n := j) (c := 1) (fun i _ => by show (if _ then _ else _ : Int) ≤ 1; split <;> omega)
        have es : su (fun k => if VL h k = -1 then 0 else 1) (j + 1) = su (fun k => if VL h k = -1 then 0 else 1) j + (if VL h j = -1 then 0 else 1) := rfl
        have go := ih (j + 1) (clr1 z) (by omega)
        rw [es] at go
        refine S133_89_82 _ _ _ ⟨fun c => absurd c (by omega), fun _ => ⟨⟨by omega, by omega⟩, ?_⟩⟩
        rw [v.1 j (by omega) (by omega)]
        refine ⟨fun c => ⟨by unfold R32; omega, ?_⟩, fun c => ⟨by unfold R32; omega, ?_⟩⟩
        · rw [if_neg c] at go; exact go
        · rw [if_pos c] at go; exact go
    exact S133_89_80 _ _ (L 100 0 _ rfl)
  · unfold B_count; rw [if_neg n0, if_neg n1, if_neg n2, if_neg n3, if_pos q4, e38]
  · unfold B_count; rw [if_neg n0, if_neg n1, if_neg n2, if_neg n3, if_neg n4, if_pos q5, e104, q5]; rfl
  · unfold B_count; rw [if_neg n0, if_neg n1, if_neg n2, if_neg n3, if_neg n4, if_neg n5, if_pos q6, e104, q6]; rfl
  · unfold B_count; rw [if_neg n0, if_neg n1, if_neg n2, if_neg n3, if_neg n4, if_neg n5, if_neg n6, if_pos q7, e97]
  · unfold B_count; rw [if_neg n0, if_neg n1, if_neg n2, if_neg n3, if_neg n4, if_neg n5, if_neg n6, if_neg n7, if_pos q8, e4]
  · unfold B_count; rw [if_neg n0, if_neg n1, if_neg n2, if_neg n3, if_neg n4, if_neg n5, if_neg n6, if_neg n7, if_neg n8]
theorem a30 (y1 : Int) : Ag X Inv 1 30 1 133 vi [vr 6, vi y1] [vr 89, vi y1, vu, vu] :=
  ag_q (fun h => B_count h y1) (fun h i => (C30 i y1).mono fun r h1 _ f => ⟨f.1, q_same i f.2⟩) (fun h h1 i e => M133 i e y1)
end
