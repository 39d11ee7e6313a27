-- ===== the abstract machine and the real one: numbers =====
def R32 (x : Int) : Prop := -2147483648 ≤ x ∧ x < 2147483648
def R64 (x : Int) : Prop := -9223372036854775808 ≤ x ∧ x < 9223372036854775808
theorem w32_R (x : Int) : R32 (w32 x) := by
  unfold R32 w32
  have h1 := Int.le_bmod (x := x) (m := 4294967296) (by decide)
  have h2 := Int.bmod_lt (x := x) (m := 4294967296) (by decide)
  constructor <;> omega
theorem w64_R (x : Int) : R64 (w64 x) := by
  unfold R64 w64
  have h1 := Int.le_bmod (x := x) (m := 18446744073709551616) (by decide)
  have h2 := Int.bmod_lt (x := x) (m := 18446744073709551616) (by decide)
  constructor <;> omega
theorem w32_id {x : Int} (h1 : -2147483648 ≤ x) (h2 : x < 2147483648) : w32 x = x := by
  unfold w32
  exact Int.bmod_eq_of_le (by omega) (by omega)
theorem w64_id {x : Int} (h1 : -9223372036854775808 ≤ x) (h2 : x < 9223372036854775808) : w64 x = x := by
  unfold w64
  exact Int.bmod_eq_of_le (by omega) (by omega)
theorem i32_toInt (x : Int) : (i32 x).toInt = w32 x := Int32.toInt_ofInt
theorem i64_toInt (x : Int) : (i64 x).toInt = w64 x := Int64.toInt_ofInt
theorem i32_tI {x : Int} (h : R32 x) : (i32 x).toInt = x := by rw [i32_toInt]; exact w32_id h.1 h.2
theorem i64_tI {x : Int} (h : R64 x) : (i64 x).toInt = x := by rw [i64_toInt]; exact w64_id h.1 h.2
theorem i32_of (x : Int32) : i32 x.toInt = x := Int32.ofInt_toInt x
theorem i64_of (x : Int64) : i64 x.toInt = x := Int64.ofInt_toInt x
theorem R32_of (x : Int32) : R32 x.toInt := ⟨x.le_toInt, x.toInt_lt⟩
theorem R64_of (x : Int64) : R64 x.toInt := ⟨x.le_toInt, x.toInt_lt⟩
theorem i32_w (x : Int) : i32 (w32 x) = i32 x := by
  apply Int32.toInt_inj.mp
  rw [i32_toInt, i32_toInt]
  unfold w32
  exact Int.bmod_bmod
theorem i64_w (x : Int) : i64 (w64 x) = i64 x := by
  apply Int64.toInt_inj.mp
  rw [i64_toInt, i64_toInt]
  unfold w64
  exact Int.bmod_bmod
theorem i32_add (a b : Int) : i32 (w32 (a + b)) = i32 a + i32 b := by rw [i32_w]; exact Int32.ofInt_add a b
theorem i32_sub (a b : Int) : i32 (w32 (a - b)) = i32 a - i32 b := by rw [i32_w]; exact Int32.ofInt_sub a b
theorem i32_mul (a b : Int) : i32 (w32 (a * b)) = i32 a * i32 b := by rw [i32_w]; exact Int32.ofInt_mul a b
theorem i32_neg (a : Int) : i32 (w32 (-a)) = -i32 a := by rw [i32_w]; exact Int32.ofInt_neg a
theorem i64_add (a b : Int) : i64 (w64 (a + b)) = i64 a + i64 b := by rw [i64_w]; exact Int64.ofInt_add a b
theorem i64_sub (a b : Int) : i64 (w64 (a - b)) = i64 a - i64 b := by rw [i64_w]; exact Int64.ofInt_sub a b
theorem i64_mul (a b : Int) : i64 (w64 (a * b)) = i64 a * i64 b := by rw [i64_w]; exact Int64.ofInt_mul a b
theorem i64_neg (a : Int) : i64 (w64 (-a)) = -i64 a := by rw [i64_w]; exact Int64.ofInt_neg a
theorem i32_div {a b : Int} (ha : R32 a) (hb : R32 b) : i32 (w32 (a.tdiv b)) = i32 a / i32 b := by
  apply Int32.toInt_inj.mp
  rw [i32_w, i32_toInt, Int32.toInt_div, i32_tI ha, i32_tI hb]
  rfl
theorem i64_div {a b : Int} (ha : R64 a) (hb : R64 b) : i64 (w64 (a.tdiv b)) = i64 a / i64 b := by
  apply Int64.toInt_inj.mp
  rw [i64_w, i64_toInt, Int64.toInt_div, i64_tI ha, i64_tI hb]
  rfl
theorem tmod_R {a b lo hi : Int} (h1 : lo ≤ 0) (h2 : 0 < hi) (ha : lo ≤ a ∧ a < hi) : lo ≤ a.tmod b ∧ a.tmod b < hi := by
  have e := Int.natAbs_tmod a b
  have m := Nat.mod_le a.natAbs b.natAbs
  rcases Int.le_total 0 a with h | h
  · have e1 := Int.tmod_nonneg b h
    omega
  · have e1 := Int.tmod_nonneg b (show 0 ≤ -a by omega)
    rw [Int.neg_tmod] at e1
    omega
theorem i32_rem {a b : Int} (ha : R32 a) (hb : R32 b) : i32 (a.tmod b) = i32 a - i32 a / i32 b * i32 b := by
  rw [← i32_div ha hb, i32_w]
  unfold i32
  rw [← Int32.ofInt_mul, ← Int32.ofInt_sub]
  congr 1
  rw [Int.tmod_def, Int.mul_comm]
theorem i64_rem {a b : Int} (ha : R64 a) (hb : R64 b) : i64 (a.tmod b) = i64 a - i64 a / i64 b * i64 b := by
  rw [← i64_div ha hb, i64_w]
  unfold i64
  rw [← Int64.ofInt_mul, ← Int64.ofInt_sub]
  congr 1
  rw [Int.tmod_def, Int.mul_comm]
theorem i32_lt {a b : Int} (ha : R32 a) (hb : R32 b) : i32 a < i32 b ↔ a < b := by rw [Int32.lt_iff_toInt_lt, i32_tI ha, i32_tI hb]
theorem i32_le {a b : Int} (ha : R32 a) (hb : R32 b) : i32 a ≤ i32 b ↔ a ≤ b := by rw [Int32.le_iff_toInt_le, i32_tI ha, i32_tI hb]
theorem i32_eq {a b : Int} (ha : R32 a) (hb : R32 b) : i32 a = i32 b ↔ a = b := by
  constructor
  · intro h
    have := congrArg Int32.toInt h
    rwa [i32_tI ha, i32_tI hb] at this
  · intro h; rw [h]
theorem i64_lt {a b : Int} (ha : R64 a) (hb : R64 b) : i64 a < i64 b ↔ a < b := by rw [Int64.lt_iff_toInt_lt, i64_tI ha, i64_tI hb]
theorem i64_eq {a b : Int} (ha : R64 a) (hb : R64 b) : i64 a = i64 b ↔ a = b := by
  constructor
  · intro h
    have := congrArg Int64.toInt h
    rwa [i64_tI ha, i64_tI hb] at this
  · intro h; rw [h]
theorem R32_0 : R32 0 := by unfold R32; decide
theorem i32_0 : i32 0 = 0 := rfl
theorem i64_ne0 {b : Int} (hb : R64 b) (h : b ≠ 0) : ¬ i64 b = 0 := fun e => h ((i64_eq hb (by unfold R64; decide)).mp (e.trans rfl))
theorem i32_ne0 {b : Int} (hb : R32 b) (h : b ≠ 0) : ¬ i32 b = 0 := fun e => h ((i32_eq hb R32_0).mp (e.trans rfl))
theorem i32_cl {i : Int} (h : R32 i) : (i32 i).toNatClampNeg = i.toNat := by
  show (i32 i).toInt.toNat = i.toNat
  rw [i32_tI h]
theorem i32_in {i : Int} {n : Nat} (h : R32 i) (h0 : 0 ≤ i) (h1 : i < n) : ¬ (i32 i < 0 ∨ n ≤ (i32 i).toNatClampNeg) := by
  rw [i32_cl h]
  intro q
  rcases q with q | q
  · have := (i32_lt h R32_0).mp q
    omega
  · omega
theorem i32_l {a : Int} (h : R32 a) : (i32 a).toInt64 = i64 a := by
  apply Int64.toInt_inj.mp
  rw [Int32.toInt_toInt64, i32_tI h, i64_tI ⟨by have := h.1; omega, by have := h.2; omega⟩]
theorem i64_i (a : Int) : (i64 a).toInt32 = i32 (w32 a) := by
  rw [i32_w]
  apply Int32.toInt_inj.mp
  rw [Int64.toInt_toInt32, i64_toInt, i32_toInt]
  unfold w32 w64
  exact Int.bmod_bmod_of_dvd (by decide)
theorem i32_b (a : Int) : (i32 a).toInt8.toInt32 = i32 (a.bmod 256) := by
  apply Int32.toInt_inj.mp
  rw [Int8.toInt_toInt32, Int32.toInt_toInt8, i32_toInt, i32_toInt]
  unfold w32
  have h1 := Int.le_bmod (x := a) (m := 256) (by decide)
  have h2 := Int.bmod_lt (x := a) (m := 256) (by decide)
  have e : (a.bmod 256).bmod 4294967296 = a.bmod 256 := Int.bmod_eq_of_le (by omega) (by omega)
  rw [e]
  exact Int.bmod_bmod_of_dvd (by decide)
theorem i32_s (a : Int) : (i32 a).toInt16.toInt32 = i32 (a.bmod 65536) := by
  apply Int32.toInt_inj.mp
  rw [Int16.toInt_toInt32, Int32.toInt_toInt16, i32_toInt, i32_toInt]
  unfold w32
  have h1 := Int.le_bmod (x := a) (m := 65536) (by decide)
  have h2 := Int.bmod_lt (x := a) (m := 65536) (by decide)
  have e : (a.bmod 65536).bmod 4294967296 = a.bmod 65536 := Int.bmod_eq_of_le (by omega) (by omega)
  rw [e]
  exact Int.bmod_bmod_of_dvd (by decide)
