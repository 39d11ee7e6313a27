-- ===== numbers packed into the bytes of a long =====
def pkH (g : Nat → Nat) : Nat → Nat
  | 0 => 0
  | n + 1 => pkH g n + g n * 256 ^ n
theorem pkH_lt {g : Nat → Nat} (H : ∀ i, g i < 256) : ∀ n : Nat, pkH g n < 256 ^ n
  | 0 => by show 0 < 256 ^ 0; decide
  | n + 1 => by
    have := pkH_lt H n
    have h2 : g n * 256 ^ n ≤ 255 * 256 ^ n := Nat.mul_le_mul_right _ (by have := H n; omega)
    unfold pkH
    rw [Nat.pow_succ]
    omega
theorem pkH_cg {g g' : Nat → Nat} : ∀ {n : Nat}, (∀ i, i < n → g i = g' i) → pkH g n = pkH g' n
  | 0, _ => rfl
  | n + 1, H => by
    unfold pkH
    rw [pkH_cg (n := n) (fun i hi => H i (by omega)), H n (by omega)]
theorem pkH_add {g g' : Nat → Nat} : ∀ n : Nat, pkH g n + pkH g' n = pkH (fun i => g i + g' i) n
  | 0 => rfl
  | n + 1 => by
    have := pkH_add (g := g) (g' := g') n
    unfold pkH
    rw [← this, Nat.add_mul]
    omega
theorem pow256 (n : Nat) : 256 ^ n = 2 ^ (8 * n) := by rw [Nat.pow_mul]
theorem splO {i u v m n : Nat} (hu : u < 2 ^ i) (hm : m < 2 ^ i) : (u + 2 ^ i * v) ||| (m + 2 ^ i * n) = (u ||| m) + 2 ^ i * (v ||| n) := by
  apply Nat.eq_of_testBit_eq
  intro j
  have h1 := Nat.testBit_two_pow_mul_add v hu j
  have h2 := Nat.testBit_two_pow_mul_add n hm j
  have h3 := Nat.testBit_two_pow_mul_add (v ||| n) (Nat.or_lt_two_pow hu hm) j
  rw [Nat.testBit_or, Nat.add_comm u, Nat.add_comm m, Nat.add_comm (u ||| m), h1, h2, h3]
  split
  · rw [Nat.testBit_or]
  · rw [Nat.testBit_or]
theorem pkH_and {g g' : Nat → Nat} (H : ∀ i, g i < 256) (H' : ∀ i, g' i < 256) : ∀ n : Nat, pkH g n &&& pkH g' n = pkH (fun i => g i &&& g' i) n
  | 0 => by show (0 &&& 0 : Nat) = 0; rfl
  | n + 1 => by
    have a := pkH_lt H n
    have b := pkH_lt H' n
    unfold pkH
    rw [← pkH_and H H' n]
    rw [pow256, Nat.mul_comm (g n), Nat.mul_comm (g' n), Nat.mul_comm (g n &&& g' n)]
    rw [pow256] at a b
    exact spl a b
theorem pkH_or {g g' : Nat → Nat} (H : ∀ i, g i < 256) (H' : ∀ i, g' i < 256) : ∀ n : Nat, pkH g n ||| pkH g' n = pkH (fun i => g i ||| g' i) n
  | 0 => by show (0 ||| 0 : Nat) = 0; rfl
  | n + 1 => by
    have a := pkH_lt H n
    have b := pkH_lt H' n
    unfold pkH
    rw [← pkH_or H H' n]
    rw [pow256, Nat.mul_comm (g n), Nat.mul_comm (g' n), Nat.mul_comm (g n ||| g' n)]
    rw [pow256] at a b
    exact splO a b
theorem pkH_0 : ∀ n : Nat, pkH (fun _ => 0) n = 0
  | 0 => rfl
  | n + 1 => by unfold pkH; rw [pkH_0 n, Nat.zero_mul]
theorem pkH_one {r v : Nat} : ∀ {n : Nat}, r < n → pkH (fun i => if i = r then v else 0) n = v * 256 ^ r
  | 0, h => absurd h (Nat.not_lt_zero r)
  | n + 1, h => by
    unfold pkH
    by_cases e : r = n
    · rw [pkH_cg (g' := fun _ => 0) (fun i hi => if_neg (by omega)), pkH_0, if_pos e.symm, e, Nat.zero_add]
    · rw [pkH_one (n := n) (by omega), if_neg (fun q => e q.symm), Nat.zero_mul, Nat.add_zero]
theorem pkH_z {g : Nat → Nat} : ∀ n : Nat, pkH g n = 0 ↔ ∀ i, i < n → g i = 0
  | 0 => ⟨fun _ i hi => absurd hi (Nat.not_lt_zero i), fun _ => rfl⟩
  | n + 1 => by
    have ih := pkH_z (g := g) n
    have p : 0 < 256 ^ n := Nat.pow_pos (by decide)
    unfold pkH
    constructor
    · intro e i hi
      have e1 : pkH g n = 0 := by omega
      have e2 : g n * 256 ^ n = 0 := by omega
      by_cases q : i = n
      · rw [q]
        rcases Nat.mul_eq_zero.mp e2 with w | w
        · exact w
        · omega
      · exact ih.mp e1 i (by omega)
    · intro H
      rw [ih.mpr (fun i hi => H i (by omega)), H n (by omega), Nat.zero_mul]
theorem pkH_div {g : Nat → Nat} (H : ∀ i, g i < 256) {r : Nat} : ∀ {n : Nat}, r < n → pkH g n / 256 ^ r % 256 = g r
  | 0, h => absurd h (Nat.not_lt_zero r)
  | n + 1, h => by
    unfold pkH
    have p : 0 < 256 ^ r := Nat.pow_pos (by decide)
    by_cases e : r = n
    · subst e
      rw [Nat.add_mul_div_right _ _ p, Nat.div_eq_of_lt (pkH_lt H r), Nat.zero_add, Nat.mod_eq_of_lt (H r)]
    · obtain ⟨d, hd⟩ : ∃ d, n = r + 1 + d := ⟨n - r - 1, by omega⟩
      have e2 : g n * 256 ^ n = (g n * 256 ^ d * 256) * 256 ^ r := by
        rw [hd, Nat.pow_add, Nat.pow_succ]
        simp only [Nat.mul_assoc, Nat.mul_comm, Nat.mul_left_comm]
      rw [e2, Nat.add_mul_div_right _ _ p, Nat.add_mul_mod_self_right, pkH_div H (n := n) (by omega)]
/-- a long of these 64 bits -/
def lg (n : Nat) : Int := (lN n).toInt
theorem lg_i (n : Nat) : i64 (lg n) = lN n := i64_of _
theorem lN_or {a b : Nat} : lN a ||| lN b = lN (a ||| b) := Int64.toBitVec_inj.mp (BitVec.eq_of_toNat_eq (by
  rw [Int64.toBitVec_or, BitVec.toNat_or]
  show BitVec.toNat (BitVec.ofNat 64 a) ||| BitVec.toNat (BitVec.ofNat 64 b) = BitVec.toNat (BitVec.ofNat 64 (a ||| b))
  rw [BitVec.toNat_ofNat, BitVec.toNat_ofNat, BitVec.toNat_ofNat, Nat.or_mod_two_pow]))
theorem lN_and {a b : Nat} : lN a &&& lN b = lN (a &&& b) := Int64.toBitVec_inj.mp (BitVec.eq_of_toNat_eq (by
  rw [Int64.toBitVec_and, BitVec.toNat_and]
  show BitVec.toNat (BitVec.ofNat 64 a) &&& BitVec.toNat (BitVec.ofNat 64 b) = BitVec.toNat (BitVec.ofNat 64 (a &&& b))
  rw [BitVec.toNat_ofNat, BitVec.toNat_ofNat, BitVec.toNat_ofNat, Nat.and_mod_two_pow]))
theorem lg_or {a b : Nat} : (i64 (lg a) ||| i64 (lg b)).toInt = lg (a ||| b) := by rw [lg_i, lg_i, lN_or]; rfl
theorem lg_and {a b : Nat} : (i64 (lg a) &&& i64 (lg b)).toInt = lg (a &&& b) := by rw [lg_i, lg_i, lN_and]; rfl
theorem lg_add {a b : Nat} : w64 (lg a + lg b) = lg (a + b) := by
  rw [← i64_toInt, ← i64_w, i64_add, lg_i, lg_i, lN_add]; rfl
theorem lg_0 : lg 0 = 0 := rfl
theorem lg_nat {n : Nat} (h : n < 2 ^ 63) : lg n = n := pk_lT h
theorem lg_inj {a b : Nat} (ha : a < 2 ^ 64) (hb : b < 2 ^ 64) (e : lg a = lg b) : a = b := by
  have e1 : lN a = lN b := Int64.toInt_inj.mp e
  have e2 := congrArg (fun x => x.toBitVec.toNat) e1
  have e3 : BitVec.toNat (BitVec.ofNat 64 a) = BitVec.toNat (BitVec.ofNat 64 b) := e2
  rw [BitVec.toNat_ofNat, BitVec.toNat_ofNat, Nat.mod_eq_of_lt ha, Nat.mod_eq_of_lt hb] at e3
  exact e3
theorem sl_k : ∀ r : Nat, r < 8 → (((i32 ((8 * r : Nat) : Int)).toInt64 &&& 63).toBitVec.smod 64).toNat = 8 * r := by decide +kernel
theorem lg_shl {v r : Nat} (hr : r < 8) : (i64 (lg v) <<< ((i32 ((8 * r : Nat) : Int)).toInt64 &&& 63)).toInt = lg (v * 256 ^ r) := by
  rw [lg_i]
  refine congrArg Int64.toInt (Int64.toBitVec_inj.mp (BitVec.eq_of_toNat_eq ?_))
  show ((BitVec.ofNat 64 v) <<< (((i32 ((8 * r : Nat) : Int)).toInt64 &&& 63).toBitVec.smod 64).toNat).toNat = BitVec.toNat (BitVec.ofNat 64 (v * 256 ^ r))
  rw [sl_k r hr, BitVec.toNat_shiftLeft, BitVec.toNat_ofNat, BitVec.toNat_ofNat, Nat.shiftLeft_eq, Nat.mod_mul_mod, pow256]
theorem su_k : ∀ r : Nat, r < 8 → (((i32 ((8 * r + 7 : Nat) : Int)).toInt64.toUInt64 &&& Int64.toUInt64 63).toBitVec % 64).toNat = 8 * r + 7 := by decide +kernel
theorem lg_ushr {x r : Nat} (hx : x < 2 ^ 64) (hr : r < 8) : ((i64 (lg x)).toUInt64 >>> ((i32 ((8 * r + 7 : Nat) : Int)).toInt64.toUInt64 &&& Int64.toUInt64 63)).toInt64.toInt = lg (x / 2 ^ (8 * r + 7)) := by
  rw [lg_i]
  refine congrArg Int64.toInt (Int64.toBitVec_inj.mp (BitVec.eq_of_toNat_eq ?_))
  have e : ((lN x).toUInt64 >>> ((i32 ((8 * r + 7 : Nat) : Int)).toInt64.toUInt64 &&& Int64.toUInt64 63)).toInt64.toBitVec = (lN x).toBitVec >>> (((i32 ((8 * r + 7 : Nat) : Int)).toInt64.toUInt64 &&& Int64.toUInt64 63).toBitVec % 64).toNat := UInt64.toBitVec_shiftRight _ _
  rw [su_k r hr] at e
  rw [e, BitVec.toNat_ushiftRight, Nat.shiftRight_eq_div_pow]
  show BitVec.toNat (BitVec.ofNat 64 x) / _ = BitVec.toNat (BitVec.ofNat 64 _)
  rw [BitVec.toNat_ofNat, BitVec.toNat_ofNat, Nat.mod_eq_of_lt hx, Nat.mod_eq_of_lt (Nat.lt_of_le_of_lt (Nat.div_le_self _ _) hx)]
theorem or128 : ∀ a : Nat, a < 256 → ∀ b : Nat, b < 256 → ((a ||| b) &&& 128 = 0 ↔ a < 128 ∧ b < 128) := by decide +kernel
