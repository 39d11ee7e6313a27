-- ===== digest =====
abbrev st31 (u v : Int) : Int := w64 (w64 (31 * u) + v)
def fo (F : Nat → Int → Int) : Nat → Int → Int
  | 0, u => u
  | n + 1, u => F n (fo F n u)
theorem fo0 {F : Nat → Int → Int} {u : Int} : fo F 0 u = u := rfl
theorem foS {F : Nat → Int → Int} {n : Nat} {u : Int} : fo F (n + 1) u = F n (fo F n u) := rfl
def dC (h : HP) (u : Int) : Int := fo (fun i u => st31 u (B_count h i)) 8 u
def dF (h : HP) (u : Int) : Int := fo (fun i u => st31 u (B_fault h i)) 2 u
def dB (h : HP) (u : Int) : Int := fo (fun i u => st31 (st31 u (B_base h i 0)) (B_base h i 1)) 2 u
def dL (h : HP) (u : Int) : Int := st31 u (A_left h)
def dG (h : HP) (u : Int) : Int := fo (fun g u => st31 (st31 (st31 (st31 u (B_zone h g 2)) (B_warns h 0 g)) (B_warns h 1 g)) (B_smo h g)) (h 89 5).toNat u
def dT (h : HP) (u : Int) : Int := fo (fun t u => st31 (st31 (st31 (st31 (st31 u (B_wrnd h t 0)) (B_wrnd h t 1)) (B_soon h t 4 1 0 0)) (B_soon h t 4 1 0 1)) (B_blame h t)) 2 u
def dO (h : HP) (u : Int) : Int := fo (fun w u => st31 u (B_over h w)) 4 u
def A_digest (h : HP) : Int := dO h (dT h (dG h (dL h (dB h (dF h (dC h 17))))))
theorem tr_count {a b : HP} (e : P a = P b) (y : Int) : B_count a y = B_count b y := by
  have t : B_count (P a) y = B_count (P b) y := by rw [e]
  exact t
theorem tr_fault {a b : HP} (e : P a = P b) (y : Int) : A_fault a y = A_fault b y := by
  have t : A_fault (P a) y = A_fault (P b) y := by rw [e]
  exact t
theorem tr_base {a b : HP} (e : P a = P b) (y z : Int) : A_base a y z = A_base b y z := by
  have t : A_base (P a) y z = A_base (P b) y z := by rw [e]
  exact t
theorem tr_left {a b : HP} (e : P a = P b) : A_left a = A_left b := by
  have t : A_left (P a) = A_left (P b) := by rw [e]
  exact t
theorem tr_zone {a b : HP} (e : P a = P b) (y z : Int) : A_zone a y z = A_zone b y z := by
  have t : A_zone (P a) y z = A_zone (P b) y z := by rw [e]
  exact t
theorem tr_warns {a b : HP} (e : P a = P b) (y z : Int) : A_warns a y z = A_warns b y z := by
  have t : A_warns (P a) y z = A_warns (P b) y z := by rw [e]
  exact t
theorem tr_smo {a b : HP} (e : P a = P b) (y : Int) : A_smo a y = A_smo b y := by
  have t : A_smo (P a) y = A_smo (P b) y := by rw [e]
  exact t
theorem tr_wby {a b : HP} (e : P a = P b) (t : Int) (l : List Int) (p : Nat) : wby a t l p = wby b t l p := by
  have t : wby (P a) t l p = wby (P b) t l p := by rw [e]
  exact t
theorem tr_rwl {a b : HP} (e : P a = P b) : rwl (VL a) (gn a) = rwl (VL b) (gn b) := by
  have t : rwl (VL (P a)) (gn (P a)) = rwl (VL (P b)) (gn (P b)) := by rw [e]
  exact t
theorem tr_hcs {a b : HP} (e : P a = P b) (k g : Int) : hcs a k g = hcs b k g := by
  have t : hcs (P a) k g = hcs (P b) k g := by rw [e]
  exact t
theorem tr_bf {a b : HP} (e : P a = P b) (t : Int) : B_fault a t = B_fault b t := by
  have t : B_fault (P a) t = B_fault (P b) t := by rw [e]
  exact t
theorem tr_qM {a b : HP} (e : P a = P b) : qM (mq5 a) (ob (mq5 a)) = qM (mq5 b) (ob (mq5 b)) := by
  have t : qM (mq5 (P a)) (ob (mq5 (P a))) = qM (mq5 (P b)) (ob (mq5 (P b))) := by rw [e]
  exact t
theorem tr_wcn {a b : HP} (e : P a = P b) (t : Int) (l : List Int) : ∀ p : Nat, wcn a t l p = wcn b t l p
  | 0 => rfl
  | p + 1 => by
    show wcn a t l p + (if wby a t l p ≠ 0 then 1 else 0) = wcn b t l p + (if wby b t l p ≠ 0 then 1 else 0)
    rw [tr_wcn e t l p, tr_wby e]
theorem tr_wff {a b : HP} (e : P a = P b) (t : Int) (l : List Int) : ∀ f p : Nat, wff a t l f p = wff b t l f p
  | 0, _ => rfl
  | f + 1, p => by
    show (if wby a t l p ≠ 0 then l.getD p 0 else wff a t l f (p + 1)) = if wby b t l p ≠ 0 then l.getD p 0 else wff b t l f (p + 1)
    rw [tr_wff e t l f, tr_wby e]
theorem tr_chance {a b : HP} (e : P a = P b) (t : Int) (l : List Int) (least : Int) : B_chance a t l least = B_chance b t l least := by
  have p : pwn1 a t l least = pwn1 b t l least := funext fun π => by
    unfold pwn1
    rw [tr_wcn e]
  unfold B_chance
  rw [p]
theorem tr_wrnd {a b : HP} (e : P a = P b) (y z : Int) : A_wrnd a y z = A_wrnd b y z := by
  unfold A_wrnd B_wrnd
  rw [tr_bf e, tr_qM e, tr_rwl e, tr_wff e, tr_wcn e, tr_chance e]
theorem tr_blc {a b : HP} (e : P a = P b) (t k : Int) : ∀ p : Nat, blc a t k p = blc b t k p
  | 0 => rfl
  | p + 1 => by
    show blc a t k p + (if wby a t (rwl (VL a) (gn a)) p ≠ 0 ∧ hcs a k ((rwl (VL a) (gn a)).getD p 0) = 1 then 1 else 0) = blc b t k p + (if wby b t (rwl (VL b) (gn b)) p ≠ 0 ∧ hcs b k ((rwl (VL b) (gn b)).getD p 0) = 1 then 1 else 0)
    rw [tr_blc e t k p, tr_wby e, tr_rwl e, tr_hcs e]
theorem tr_blame {a b : HP} (e : P a = P b) (y : Int) : A_blame a y = A_blame b y := by
  have k : blk a y = blk b y := funext fun k => by
    unfold blk
    rw [tr_blc e, tr_rwl e]
  unfold A_blame B_blame
  rw [tr_bf e, tr_qM e, k]
theorem tr_over {a b : HP} (e : P a = P b) (y : Int) : A_over a y = A_over b y := by
  have t : A_over (P a) y = A_over (P b) y := by rw [e]
  exact t
/-- the class between its queries -/
def Cst (h k : HP) : Prop := P k = P h ∧ NT k
theorem Cst.inv {h k : HP} (i : Inv h) (c : Cst h k) : Inv k := Inv_q i c.1 c.2
theorem Cst.tr {h k l : HP} (c : Cst h k) (e : P l = P k ∧ NT l) : Cst h l := ⟨e.1.trans c.1, e.2⟩
theorem Cst.same {h k l : HP} (c : Cst h k) (e : l = k) : Cst h l := by rw [e]; exact c
section
variable {X : Nat × (Int → Int)} {h k : HP}
theorem q30 (i : Inv h) (c : Cst h k) (y : Int) : Wp X 1 30 0 [vr 6, vi y] [] k (fun r l => r = some (vi (B_count h y)) ∧ Cst h l) :=
  (C30 (c.inv i) y).mono fun r l _ f => ⟨by rw [f.1, tr_count c.1], c.same f.2⟩
theorem q12 (i : Inv h) (c : Cst h k) {y : Int} (hy : 0 ≤ y ∧ y ≤ 1) : Wp X 1 12 0 [vr 6, vi y] [] k (fun r l => r = some (vi (B_fault h y)) ∧ Cst h l) :=
  (C12 (c.inv i) y).mono fun r l _ f => ⟨by rw [f.1, tr_fault c.1, show A_fault h y = B_fault h y from if_pos hy], c.same f.2⟩
theorem q7 (i : Inv h) (c : Cst h k) {y z : Int} (hy : 0 ≤ y ∧ y ≤ 1 ∧ 0 ≤ z ∧ z ≤ 1) : Wp X 2 7 0 [vr 6, vi y, vi z] [] k (fun r l => r = some (vl (B_base h y z)) ∧ Cst h l) :=
  (C7 (c.inv i) y z).mono fun r l _ f => ⟨by rw [f.1, tr_base c.1, show A_base h y z = B_base h y z from if_pos hy], c.same f.2⟩
theorem q8 (i : Inv h) (c : Cst h k) : Wp X 1 8 0 [vr 6] [] k (fun r l => r = some (vi (A_left h)) ∧ Cst h l) :=
  (C8 (c.inv i)).mono fun r l _ f => ⟨by rw [f.1, tr_left c.1], c.same f.2⟩
theorem q9 (i : Inv h) (c : Cst h k) {y z : Int} (hy : 0 ≤ y ∧ y < h 89 5 ∧ 0 ≤ z ∧ z ≤ 2) : Wp X 3 9 0 [vr 6, vi y, vi z, vu] [] k (fun r l => r = some (vi (B_zone h y z)) ∧ Cst h l) :=
  (C9 (c.inv i) y z).mono fun r l _ f => ⟨by rw [f.1, tr_zone c.1, show A_zone h y z = B_zone h y z from if_pos hy], c.same f.2⟩
theorem q13 (i : Inv h) (c : Cst h k) {y z : Int} (hy : 0 ≤ y ∧ y ≤ 1 ∧ 0 ≤ z ∧ z < h 89 5) : Wp X 4 13 0 [vr 6, vi y, vi z] [] k (fun r l => r = some (vi (B_warns h y z)) ∧ Cst h l) :=
  (C13 (c.inv i) y z).mono fun r l _ f => ⟨by rw [f.1, tr_warns c.1, show A_warns h y z = B_warns h y z from if_pos hy], c.same f.2⟩
theorem q23 (i : Inv h) (c : Cst h k) {y : Int} (hy : 0 ≤ y ∧ y < h 89 5) : Wp X 2 23 0 [vr 6, vi y] [] k (fun r l => r = some (vi (B_smo h y)) ∧ Cst h l) :=
  (C23 (c.inv i) y).mono fun r l _ f => ⟨by rw [f.1, tr_smo c.1, show A_smo h y = B_smo h y from if_pos hy], c.same f.2⟩
theorem q14 (i : Inv h) (c : Cst h k) {y z : Int} (hy : 0 ≤ y ∧ y ≤ 1 ∧ 0 ≤ z ∧ z ≤ 2) : Wp X 15 14 0 [vr 6, vi y, vi z] [] k (fun r l => r = some (vi (B_wrnd h y z)) ∧ Cst h l) :=
  (C14 (c.inv i) ⟨fun least l0 l1 hf _ h7 => K184_45 (c.inv i) l0 l1 hf h7, fun least l0 l1 hf _ h7 => K184_53 (c.inv i) l0 l1 hf h7⟩ y z).mono fun r l _ f => ⟨by rw [f.1, tr_wrnd c.1, show A_wrnd h y z = B_wrnd h y z from if_pos hy], c.tr f.2⟩
theorem q17 (i : Inv h) (c : Cst h k) {y z : Int} (hy : 0 ≤ y ∧ y ≤ 1 ∧ 0 ≤ z ∧ z ≤ 1) : Wp X 4 17 0 [vr 6, vi y, vi 4, vi 1, vi 0, vi z] [] k (fun r l => r = some (vl (B_soon h y 4 1 0 z)) ∧ Cst h l) :=
  (C17 i c.1 c.2).mono fun r l _ f => ⟨by rw [f.1, show A_soon h y 4 1 0 z = B_soon h y 4 1 0 z from if_pos (by omega)], f.2⟩
theorem q22 (i : Inv h) (c : Cst h k) {y : Int} (hy : 0 ≤ y ∧ y ≤ 1) : Wp X 5 22 0 [vr 6, vi y, vu, vu, vu, vu] [] k (fun r l => r = some (vi (B_blame h y)) ∧ Cst h l) :=
  (C22 (c.inv i) y).mono fun r l _ f => ⟨by rw [f.1, tr_blame c.1, show A_blame h y = B_blame h y from if_pos hy], c.same f.2⟩
theorem q20 (i : Inv h) (c : Cst h k) {y : Int} (hy : 0 ≤ y ∧ y ≤ 3) : Wp X 3 20 0 [vr 6, vi y, vu, vu, vu, vu] [] k (fun r l => r = some (vi (B_over h y)) ∧ Cst h l) :=
  (C20 (c.inv i) y).mono fun r l _ f => ⟨by rw [f.1, tr_over c.1, show A_over h y = B_over h y from if_pos hy], c.tr f.2⟩
/-- the class's digest -/
theorem C31 (i : Inv h) : Wp X 16 31 0 [vr 6, vu, vu, vu, vu] [] h (fun r l => r = some (vl (A_digest h)) ∧ Cst h l) := by
  have G0 : 0 ≤ h 89 5 ∧ h 89 5 ≤ 20 := by have := i.tok.1; omega
  have LO : ∀ (j n : Nat) (u U : Int) (l : HP) (z : aV), n + j = 4 → Cst h l → u = fo (fun w u => st31 u (B_over h w)) n U → Wp X 16 31 272 [vr 6, vl u, vu, vi n, z] [] l (fun r l => r = some (vl (dO h U)) ∧ Cst h l) := by
    intro j
    induction j with
    | zero =>
      intro n u U l z hn c hu
      have hn : n = 4 := by omega
      subst hn
      exact S31_6_272 _ _ _ ⟨fun _ => ⟨by rw [show u = dO h U from hu], c⟩, fun q => absurd q (by omega)⟩
    | succ j ih =>
      intro n u U l z hn c hu
      refine S31_6_272 _ _ _ ⟨fun q => absurd q (by omega), fun _ => (q20 i c (by omega)).mono fun v l1 _ f => ?_⟩
      obtain ⟨rfl, c1⟩ := f
      exact S31_6_287 _ _ _ _ _ ⟨by unfold R32; omega, ih (n + 1) _ U _ _ (by omega) c1 (by rw [foS, hu])⟩
  have LT : ∀ (j n : Nat) (u U : Int) (l : HP) (z : aV), n + j = 2 → Cst h l → u = fo (fun t u => st31 (st31 (st31 (st31 (st31 u (B_wrnd h t 0)) (B_wrnd h t 1)) (B_soon h t 4 1 0 0)) (B_soon h t 4 1 0 1)) (B_blame h t)) n U → Wp X 16 31 186 [vr 6, vl u, vu, vi n, z] [] l (fun r l => r = some (vl (dO h (dT h U))) ∧ Cst h l) := by
    intro j
    induction j with
    | zero =>
      intro n u U l z hn c hu
      have hn : n = 2 := by omega
      subst hn
      exact S31_6_186 _ _ _ ⟨fun _ => LO 4 0 _ (dT h U) _ _ rfl c ((show u = dT h U from hu).trans fo0.symm), fun q => absurd q (by omega)⟩
    | succ j ih =>
      intro n u U l z hn c hu
      refine S31_6_186 _ _ _ ⟨fun q => absurd q (by omega), fun _ => (q14 i c (by omega)).mono fun v l1 _ f => ?_⟩
      obtain ⟨rfl, c1⟩ := f
      refine S31_6_202 _ _ _ _ _ ((q14 i c1 (by omega)).mono fun v l2 _ f => ?_)
      obtain ⟨rfl, c2⟩ := f
      refine S31_6_216 _ _ _ _ _ ((q17 i c2 (by omega)).mono fun v l3 _ f => ?_)
      obtain ⟨rfl, c3⟩ := f
      refine S31_6_233 _ _ _ _ _ ((q17 i c3 (by omega)).mono fun v l4 _ f => ?_)
      obtain ⟨rfl, c4⟩ := f
      refine S31_6_249 _ _ _ _ _ ((q22 i c4 (by omega)).mono fun v l5 _ f => ?_)
      obtain ⟨rfl, c5⟩ := f
      exact S31_6_261 _ _ _ _ _ ⟨by unfold R32; omega, ih (n + 1) _ U _ _ (by omega) c5 (by rw [foS, hu])⟩
  have LG : ∀ (j n : Nat) (u U : Int) (l : HP) (z : aV), (n : Int) + j = h 89 5 → Cst h l → u = fo (fun g u => st31 (st31 (st31 (st31 u (B_zone h g 2)) (B_warns h 0 g)) (B_warns h 1 g)) (B_smo h g)) n U → Wp X 16 31 110 [vr 6, vl u, vu, vi n, z] [] l (fun r l => r = some (vl (dO h (dT h (dG h U)))) ∧ Cst h l) := by
    intro j
    induction j with
    | zero =>
      intro n u U l z hn c hu
      have e8 : l 8 8 = h 89 5 := (congrFun (congrFun c.1 8) 8).trans i.g8
      have hn : n = (h 89 5).toNat := by omega
      exact S31_6_110 _ _ _ ⟨fun _ => LT 2 0 _ (dG h U) _ _ rfl c ((show u = dG h U by rw [hn] at hu; exact hu).trans fo0.symm), fun q => absurd q (by rw [e8]; omega)⟩
    | succ j ih =>
      intro n u U l z hn c hu
      have e8 : l 8 8 = h 89 5 := (congrFun (congrFun c.1 8) 8).trans i.g8
      refine S31_6_110 _ _ _ ⟨fun q => absurd q (by rw [e8]; omega), fun _ => (q9 i c (by omega)).mono fun v l1 _ f => ?_⟩
      obtain ⟨rfl, c1⟩ := f
      refine S31_6_132 _ _ _ _ _ (S31_6_138 _ _ _ ⟨fun q => absurd q (by decide), fun _ => (q13 i c1 (by omega)).mono fun v l2 _ f => ?_⟩)
      obtain ⟨rfl, c2⟩ := f
      refine S31_6_156 _ _ _ _ _ ⟨by unfold R32; omega, S31_6_138 _ _ _ ⟨fun q => absurd q (by decide), fun _ => (q13 (y := 1) i c2 (by omega)).mono fun v l3 _ f => ?_⟩⟩
      obtain ⟨rfl, c3⟩ := f
      refine S31_6_156 _ _ _ _ _ ⟨by unfold R32; omega, S31_6_138 _ _ _ ⟨fun _ => (q23 i c3 (by omega)).mono fun v l4 _ f => ?_, fun q => absurd q (by decide)⟩⟩
      obtain ⟨rfl, c4⟩ := f
      exact S31_6_175 _ _ _ _ _ ⟨by unfold R32; omega, ih (n + 1) _ U _ _ (by omega) c4 (by rw [foS, hu])⟩
  have LB : ∀ (j n : Nat) (u U : Int) (l : HP), n + j = 2 → Cst h l → u = fo (fun i u => st31 (st31 u (B_base h i 0)) (B_base h i 1)) n U → Wp X 16 31 59 [vr 6, vl u, vu, vi n, vu] [] l (fun r l => r = some (vl (dO h (dT h (dG h (dL h (dB h U)))))) ∧ Cst h l) := by
    intro j
    induction j with
    | zero =>
      intro n u U l hn c hu
      have hn : n = 2 := by omega
      subst hn
      refine S31_6_59 _ _ ⟨fun _ => (q8 i c).mono fun v l1 _ f => ?_, fun q => absurd q (by omega)⟩
      obtain ⟨rfl, c1⟩ := f
      exact S31_6_105 _ _ _ _ (LG (h 89 5).toNat 0 _ (dL h (dB h U)) _ _ (by omega) c1 ((show _ = dL h (dB h U) by rw [show u = dB h U from hu]; rfl).trans fo0.symm))
    | succ j ih =>
      intro n u U l hn c hu
      refine S31_6_59 _ _ ⟨fun q => absurd q (by omega), fun _ => (q7 i c (by omega)).mono fun v l1 _ f => ?_⟩
      obtain ⟨rfl, c1⟩ := f
      refine S31_6_75 _ _ _ _ ((q7 i c1 (by omega)).mono fun v l2 _ f => ?_)
      obtain ⟨rfl, c2⟩ := f
      exact S31_6_88 _ _ _ _ ⟨by unfold R32; omega, ih (n + 1) _ U _ (by omega) c2 (by rw [foS, hu])⟩
  have LF : ∀ (j n : Nat) (u U : Int) (l : HP), n + j = 2 → Cst h l → u = fo (fun i u => st31 u (B_fault h i)) n U → Wp X 16 31 33 [vr 6, vl u, vu, vi n, vu] [] l (fun r l => r = some (vl (dO h (dT h (dG h (dL h (dB h (dF h U))))))) ∧ Cst h l) := by
    intro j
    induction j with
    | zero =>
      intro n u U l hn c hu
      have hn : n = 2 := by omega
      subst hn
      exact S31_6_33 _ _ ⟨fun _ => LB 2 0 _ (dF h U) _ rfl c ((show u = dF h U from hu).trans fo0.symm), fun q => absurd q (by omega)⟩
    | succ j ih =>
      intro n u U l hn c hu
      refine S31_6_33 _ _ ⟨fun q => absurd q (by omega), fun _ => (q12 i c (by omega)).mono fun v l1 _ f => ?_⟩
      obtain ⟨rfl, c1⟩ := f
      exact S31_6_48 _ _ _ _ ⟨by unfold R32; omega, ih (n + 1) _ U _ (by omega) c1 (by rw [foS, hu])⟩
  have LC : ∀ (j n : Nat) (u U : Int) (l : HP), n + j = 8 → Cst h l → u = fo (fun i u => st31 u (B_count h i)) n U → Wp X 16 31 6 [vr 6, vl u, vu, vi n, vu] [] l (fun r l => r = some (vl (dO h (dT h (dG h (dL h (dB h (dF h (dC h U)))))))) ∧ Cst h l) := by
    intro j
    induction j with
    | zero =>
      intro n u U l hn c hu
      have hn : n = 8 := by omega
      subst hn
      exact S31_6_6 _ _ ⟨fun _ => LF 2 0 _ (dC h U) _ rfl c ((show u = dC h U from hu).trans fo0.symm), fun q => absurd q (by omega)⟩
    | succ j ih =>
      intro n u U l hn c hu
      refine S31_6_6 _ _ ⟨fun q => absurd q (by omega), fun _ => (q30 i c n).mono fun v l1 _ f => ?_⟩
      obtain ⟨rfl, c1⟩ := f
      exact S31_6_22 _ _ _ _ ⟨by unfold R32; omega, ih (n + 1) _ U _ (by omega) c1 (by rw [foS, hu])⟩
  exact S31_6_0 (LC 8 0 17 17 h rfl ⟨rfl, i.2⟩ fo0.symm)
theorem dB4 (h : HP) (U : Int) : fo (fun i u => st31 u (B_base h ((i / 2 : Nat) : Int) ((i % 2 : Nat) : Int))) 4 U = dB h U := by
  unfold dB
  rw [foS, foS, foS, foS, fo0, foS, foS, fo0]
  rfl
/-- the reference between its queries -/
def Mst (h k l : HP) : Prop := P l = P h ∧ Fr fM k l
theorem Mst.tr {h k l m : HP} (c : Mst h k l) (F : Fr fM l m) : Mst h k m := ⟨F.fM_P.trans c.1, c.2.tr F⟩
/-- the reference's digest -/
theorem M134 (i : Inv h) (e : P k = P h) : Wp X 7 134 0 [vr 89, vu, vu, vu] [] k (fun r l => r = some (vl (A_digest h)) ∧ Fr fM k l) := by
  have G0 : 0 ≤ h 89 5 ∧ h 89 5 ≤ 20 := by have := i.tok.1; omega
  have LO : ∀ (j n : Nat) (u U : Int) (l : HP), n + j = 4 → Mst h k l → u = fo (fun w u => st31 u (B_over h w)) n U → Wp X 7 134 258 [vr 89, vl u, vu, vi n] [] l (fun r l => r = some (vl (dO h U)) ∧ Fr fM k l) := by
    intro j
    induction j with
    | zero =>
      intro n u U l hn c hu
      have hn : n = 4 := by omega
      subst hn
      exact S134_89_258 _ _ ⟨fun _ => ⟨by rw [show u = dO h U from hu], c.2⟩, fun q => absurd q (by omega)⟩
    | succ j ih =>
      intro n u U l hn c hu
      refine S134_89_258 _ _ ⟨fun q => absurd q (by omega), fun _ => (M125 i c.1 (by omega)).mono fun v l1 _ f => ?_⟩
      obtain ⟨rfl, F⟩ := f
      exact S134_89_273 _ _ _ _ ⟨by unfold R32; omega, ih (n + 1) _ U _ (by omega) (c.tr F) (by rw [foS, hu])⟩
  have LT : ∀ (j n : Nat) (u U : Int) (l : HP), n + j = 2 → Mst h k l → u = fo (fun t u => st31 (st31 (st31 (st31 (st31 u (B_wrnd h t 0)) (B_wrnd h t 1)) (B_soon h t 4 1 0 0)) (B_soon h t 4 1 0 1)) (B_blame h t)) n U → Wp X 7 134 172 [vr 89, vl u, vu, vi n] [] l (fun r l => r = some (vl (dO h (dT h U))) ∧ Fr fM k l) := by
    intro j
    induction j with
    | zero =>
      intro n u U l hn c hu
      have hn : n = 2 := by omega
      subst hn
      exact S134_89_172 _ _ ⟨fun _ => LO 4 0 _ (dT h U) _ rfl c ((show u = dT h U from hu).trans fo0.symm), fun q => absurd q (by omega)⟩
    | succ j ih =>
      intro n u U l hn c hu
      refine S134_89_172 _ _ ⟨fun q => absurd q (by omega), fun _ => (M106 i c.1 (by omega) (by omega)).mono fun v l1 _ f => ?_⟩
      obtain ⟨rfl, F1⟩ := f
      have c1 := c.tr F1
      refine S134_89_188 _ _ _ _ ((M106 i c1.1 (by omega) (by omega)).mono fun v l2 _ f => ?_)
      obtain ⟨rfl, F2⟩ := f
      have c2 := c1.tr F2
      refine S134_89_202 _ _ _ _ ((M118 i c2.1 (by omega) (by omega) (by omega)).mono fun v l3 _ f => ?_)
      obtain ⟨rfl, F3⟩ := f
      have c3 := c2.tr F3
      refine S134_89_219 _ _ _ _ ((M118 i c3.1 (by omega) (by omega) (by omega)).mono fun v l4 _ f => ?_)
      obtain ⟨rfl, F4⟩ := f
      have c4 := c3.tr F4
      refine S134_89_235 _ _ _ _ ((M127 i c4.1 (by omega)).mono fun v l5 _ f => ?_)
      obtain ⟨rfl, F5⟩ := f
      exact S134_89_247 _ _ _ _ ⟨by unfold R32; omega, ih (n + 1) _ U _ (by omega) (c4.tr F5) (by rw [foS, hu])⟩
  have LG : ∀ (j n : Nat) (u U : Int) (l : HP), (n : Int) + j = h 89 5 → Mst h k l → u = fo (fun g u => st31 (st31 (st31 (st31 u (B_zone h g 2)) (B_warns h 0 g)) (B_warns h 1 g)) (B_smo h g)) n U → Wp X 7 134 101 [vr 89, vl u, vu, vi n] [] l (fun r l => r = some (vl (dO h (dT h (dG h U)))) ∧ Fr fM k l) := by
    intro j
    induction j with
    | zero =>
      intro n u U l hn c hu
      have e8 : l 89 5 = h 89 5 := congrFun (congrFun c.1 89) 5
      have hn : n = (h 89 5).toNat := by omega
      exact S134_89_101 _ _ ⟨fun _ => LT 2 0 _ (dG h U) _ rfl c ((show u = dG h U by rw [hn] at hu; exact hu).trans fo0.symm), fun q => absurd q (by rw [e8]; omega)⟩
    | succ j ih =>
      intro n u U l hn c hu
      have e8 : l 89 5 = h 89 5 := congrFun (congrFun c.1 89) 5
      refine S134_89_101 _ _ ⟨fun q => absurd q (by rw [e8]; omega), fun _ => (M84 i c.1 (by omega) (by omega)).mono fun v l1 _ f => ?_⟩
      obtain ⟨rfl, F1⟩ := f
      have c1 := c.tr F1
      refine S134_89_120 _ _ _ _ ((M100 i c1.1 (by omega) (by omega)).mono fun v l2 _ f => ?_)
      obtain ⟨rfl, F2⟩ := f
      have c2 := c1.tr F2
      refine S134_89_134 _ _ _ _ ((M100 i c2.1 (by omega) (by omega)).mono fun v l3 _ f => ?_)
      obtain ⟨rfl, F3⟩ := f
      have c3 := c2.tr F3
      refine S134_89_148 _ _ _ _ ((M130 i c3.1 (by omega)).mono fun v l4 _ f => ?_)
      obtain ⟨rfl, F4⟩ := f
      exact S134_89_161 _ _ _ _ ⟨by unfold R32; omega, ih (n + 1) _ U _ (by omega) (c3.tr F4) (by rw [foS, hu])⟩
  have LB : ∀ (j n : Nat) (u U : Int) (l : HP), n + j = 4 → Mst h k l → u = fo (fun i u => st31 u (B_base h ((i / 2 : Nat) : Int) ((i % 2 : Nat) : Int))) n U → Wp X 7 134 59 [vr 89, vl u, vu, vi n] [] l (fun r l => r = some (vl (dO h (dT h (dG h (dL h (dB h U)))))) ∧ Fr fM k l) := by
    intro j
    induction j with
    | zero =>
      intro n u U l hn c hu
      have hn : n = 4 := by omega
      subst hn
      refine S134_89_59 _ _ ⟨fun _ => (M81 i c.1).mono fun v l1 _ f => ?_, fun q => absurd q (by omega)⟩
      obtain ⟨rfl, F⟩ := f
      exact S134_89_96 _ _ _ _ (LG (h 89 5).toNat 0 _ (dL h (dB h U)) _ (by omega) (c.tr F) ((show _ = dL h (dB h U) by rw [show u = dB h U from hu.trans (dB4 h U)]; rfl).trans fo0.symm))
    | succ j ih =>
      intro n u U l hn c hu
      have td : Int.tdiv (n : Int) 2 = ((n / 2 : Nat) : Int) := rfl
      have tm : Int.tmod (n : Int) 2 = ((n % 2 : Nat) : Int) := rfl
      refine S134_89_59 _ _ ⟨fun q => absurd q (by omega), fun _ => ⟨by rw [td]; unfold R32; omega, ?_⟩⟩
      rw [td, tm]
      refine (M79 i c.1 _ _).mono fun v l1 _ f => ?_
      obtain ⟨rfl, F⟩ := f
      exact S134_89_79 _ _ _ _ ⟨by unfold R32; omega, ih (n + 1) _ U _ (by omega) (c.tr F) (by rw [foS, hu])⟩
  have LF : ∀ (j n : Nat) (u U : Int) (l : HP), n + j = 2 → Mst h k l → u = fo (fun i u => st31 u (B_fault h i)) n U → Wp X 7 134 33 [vr 89, vl u, vu, vi n] [] l (fun r l => r = some (vl (dO h (dT h (dG h (dL h (dB h (dF h U))))))) ∧ Fr fM k l) := by
    intro j
    induction j with
    | zero =>
      intro n u U l hn c hu
      have hn : n = 2 := by omega
      subst hn
      exact S134_89_33 _ _ ⟨fun _ => LB 4 0 _ (dF h U) _ rfl c ((show u = dF h U from hu).trans fo0.symm), fun q => absurd q (by omega)⟩
    | succ j ih =>
      intro n u U l hn c hu
      refine S134_89_33 _ _ ⟨fun q => absurd q (by omega), fun _ => (M92 i c.1 (by omega)).mono fun v l1 _ f => ?_⟩
      obtain ⟨rfl, F⟩ := f
      exact S134_89_48 _ _ _ _ ⟨by unfold R32; omega, ih (n + 1) _ U _ (by omega) (c.tr F) (by rw [foS, hu])⟩
  have LC : ∀ (j n : Nat) (u U : Int) (l : HP), n + j = 8 → Mst h k l → u = fo (fun i u => st31 u (B_count h i)) n U → Wp X 7 134 6 [vr 89, vl u, vu, vi n] [] l (fun r l => r = some (vl (dO h (dT h (dG h (dL h (dB h (dF h (dC h U)))))))) ∧ Fr fM k l) := by
    intro j
    induction j with
    | zero =>
      intro n u U l hn c hu
      have hn : n = 8 := by omega
      subst hn
      exact S134_89_6 _ _ ⟨fun _ => LF 2 0 _ (dC h U) _ rfl c ((show u = dC h U from hu).trans fo0.symm), fun q => absurd q (by omega)⟩
    | succ j ih =>
      intro n u U l hn c hu
      refine S134_89_6 _ _ ⟨fun q => absurd q (by omega), fun _ => (M133 i c.1 n).mono fun v l1 _ f => ?_⟩
      obtain ⟨rfl, F⟩ := f
      exact S134_89_22 _ _ _ _ ⟨by unfold R32; omega, ih (n + 1) _ U _ (by omega) (c.tr F) (by rw [foS, hu])⟩
  exact S134_89_0 (LC 8 0 17 17 k rfl ⟨e, Fr.rf⟩ fo0.symm)
theorem a31 : Ag X Inv 16 31 7 134 vl [vr 6, vu, vu, vu, vu] [vr 89, vu, vu, vu] :=
  ag_q A_digest (fun h i => C31 i) (fun h h1 i e => M134 i e)
end
