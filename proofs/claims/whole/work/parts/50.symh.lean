-- ===== the rules that the symbolic execution adds (by program: wip/whole/gen_sym.py) =====
theorem RF_kn : ∀ j, j < 20 → RFn 13 j = 13 + j + 1 := by decide +kernel
theorem kd_kn : ∀ j, j < 20 → kd SHR (8 + j) = (0, 5) := by decide +kernel
theorem kf_kn {N j : Nat} (h : j < 20) : kd (SHL N) (14 + j) = (0, 5) := by
  rw [SHL_hi (by omega), show 14 + j - 6 = 8 + j by omega]
  exact kd_kn j h
theorem wp_known {X : Nat × (Int → Int)} {ρ M pc np : Nat} {L st : List aV} {h : HP} {Q : bQ} {i : Int} (hc : cod M pc = some (.aaload, np)) (hb : 0 ≤ i ∧ i < 20) (kk : Wp X ρ M np L (vr (14 + i.toNat) :: st) h Q) : Wp X ρ M pc L (vi i :: vr 13 :: st) h Q :=
  wp_aaload (r := 13 + i.toNat) hc (kf_13 X.1) (by decide) hb (RF_kn i.toNat (by omega)) (by rw [show 13 + i.toNat + 1 = 14 + i.toNat by omega]; exact kk)
theorem wp_alenK {X : Nat × (Int → Int)} {ρ M pc np : Nat} {L st : List aV} {h : HP} {Q : bQ} {a n : Nat} (hc : cod M pc = some (.arraylength, np)) (hk : kd (SHL X.1) a = (5, n)) (kk : Wp X ρ M np L (vi (n : Int) :: st) h Q) : Wp X ρ M pc L (vr a :: st) h Q := fun hf => wg_step hc rfl ⟨by rw [hk], by rw [hk]; exact kk hf⟩
theorem w32_I {x : Int} (e : R32 x) : w32 x = x := w32_id e.1 e.2
theorem w64_I {x : Int} (e : R64 x) : w64 x = x := w64_id e.1 e.2
theorem upd2_cg {h h2 : HP} {a : Nat} {i v : Int} (e : h a = h2 a) : upd2 h a i v a = upd2 h2 a i v a := by
  funext j
  unfold upd2
  rw [e]
theorem upd2_e {h : HP} {a : Nat} {i j v : Int} (e : j = i) : upd2 h a i v a j = v := by rw [e]; exact upd2_s
theorem Wp.topI {X : Nat × (Int → Int)} {ρ M pc : Nat} {L st : List aV} {h : HP} {Q : bQ} {x y : Int} (e : x = y) (k : Wp X ρ M pc L (vi y :: st) h Q) : Wp X ρ M pc L (vi x :: st) h Q := by rw [e]; exact k
theorem Wp.topL {X : Nat × (Int → Int)} {ρ M pc : Nat} {L st : List aV} {h : HP} {Q : bQ} {x y : Int} (e : x = y) (k : Wp X ρ M pc L (vl y :: st) h Q) : Wp X ρ M pc L (vl x :: st) h Q := by rw [e]; exact k
theorem wp_iincR {X : Nat × (Int → Int)} {ρ M pc np : Nat} {L st : List aV} {h : HP} {Q : bQ} {n : Nat} {d x : Int} {L2 : List aV} (hc : cod M pc = some (.iinc n d, np)) (hx : L[n]? = some (vi x)) (hr : R32 (x + d)) (hl : sto1 L n (vi (x + d)) = L2) (k : Wp X ρ M np L2 st h Q) : Wp X ρ M pc L st h Q := wp_iinc hc hx (by rw [w32_I hr]; exact hl) k
