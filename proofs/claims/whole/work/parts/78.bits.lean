-- ===== sets of groups as bits; how many bits =====
theorem i32_nI (n : Nat) : i32 (n : Int) = nI n := Int32.toBitVec_inj.mp (BitVec.ofInt_natCast 32 n)
theorem or_N {a b : Nat} (ha : a < 2 ^ 31) (hb : b < 2 ^ 31) : (i32 (a : Int) ||| i32 (b : Int)).toInt = ((a ||| b : Nat) : Int) := by
  have hc : a ||| b < 2 ^ 31 := Nat.or_lt_two_pow ha hb
  have e : nI a ||| nI b = nI (a ||| b) := Int32.toBitVec_inj.mp (BitVec.eq_of_toNat_eq (by
    rw [Int32.toBitVec_or, BitVec.toNat_or, pk_tn (by omega), pk_tn (by omega), pk_tn (by omega)]))
  rw [i32_nI, i32_nI, e, nI_toInt hc]
theorem and_N {a b : Nat} (ha : a < 2 ^ 31) (hb : b < 2 ^ 31) : (i32 (a : Int) &&& i32 (b : Int)).toInt = ((a &&& b : Nat) : Int) := by
  have hc : a &&& b < 2 ^ 31 := Nat.and_lt_two_pow a hb
  have e : nI a &&& nI b = nI (a &&& b) := Int32.toBitVec_inj.mp (BitVec.eq_of_toNat_eq (by
    rw [Int32.toBitVec_and, BitVec.toNat_and, pk_tn (by omega), pk_tn (by omega), pk_tn (by omega)]))
  rw [i32_nI, i32_nI, e, nI_toInt hc]
theorem sm_k : ∀ k : Nat, k < 32 → ((i32 (k : Int) &&& 31).toBitVec.smod 32).toNat = k := by decide +kernel
theorem shl_N {k : Nat} (hk : k < 31) : (i32 1 <<< (i32 (k : Int) &&& 31)).toInt = ((2 ^ k : Nat) : Int) := by
  have e := pk_shlN (n := 1) (i32 (k : Int) &&& 31) k (sm_k k (by omega)) (by
    rw [Nat.one_mul]; exact Nat.pow_lt_pow_right (by decide) (by omega))
  rw [show i32 1 = nI 1 from i32_nI 1, e, nI_toInt (by rw [Nat.one_mul]; exact Nat.pow_lt_pow_right (by decide) (by omega)), Nat.one_mul]
theorem shr_N {m k : Nat} (hm : m < 2 ^ 31) (hk : k < 32) : (i32 (m : Int) >>> (i32 (k : Int) &&& 31)).toInt = ((m / 2 ^ k : Nat) : Int) := by
  rw [i32_nI m, pk_shrN hm (i32 (k : Int) &&& 31) k (sm_k k hk), nI_toInt (Nat.lt_of_le_of_lt (Nat.div_le_self _ _) hm)]
theorem bit_N {m k : Nat} (hm : m < 2 ^ 31) (hk : k < 32) : (i32 ((i32 (m : Int) >>> (i32 (k : Int) &&& 31)).toInt) &&& i32 1).toInt = if m.testBit k then 1 else 0 := by
  rw [shr_N hm hk]
  have e := and_N (a := m / 2 ^ k) (b := 1) (Nat.lt_of_le_of_lt (Nat.div_le_self _ _) hm) (by decide)
  have e2 : (i32 ((m / 2 ^ k : Nat) : Int) &&& i32 1).toInt = ((m / 2 ^ k &&& 1 : Nat) : Int) := e
  rw [e2, Nat.and_one_is_mod, Nat.testBit_eq_decide_div_mod_eq]
  rcases Nat.mod_two_eq_zero_or_one (m / 2 ^ k) with q | q <;> rw [q] <;> rfl
theorem ushr_N {n k : Nat} (hn : n < 2 ^ 31) (hs : (((i32 (k : Int)).toUInt32 &&& Int32.toUInt32 31).toBitVec % 32).toNat = k) : ((i32 (n : Int)).toUInt32 >>> ((i32 (k : Int)).toUInt32 &&& Int32.toUInt32 31)).toInt32.toInt = ((n / 2 ^ k : Nat) : Int) := by
  rw [i32_nI n, pk_ushrN (by omega) (i32 (k : Int)) k hs, nI_toInt (Nat.lt_of_le_of_lt (Nat.div_le_self _ _) hn)]
/-- a set below n, as bits -/
def bys (F : Int → Bool) : Nat → Nat
  | 0 => 0
  | n + 1 => if F n then bys F n ||| 2 ^ n else bys F n
theorem bys_lt {F : Int → Bool} : ∀ n : Nat, bys F n < 2 ^ n
  | 0 => by show 0 < 2 ^ 0; decide
  | n + 1 => by
    have ih := bys_lt (F := F) n
    have e : 2 ^ (n + 1) = 2 ^ n + 2 ^ n := by rw [Nat.pow_succ]; omega
    unfold bys
    split
    · exact Nat.or_lt_two_pow (by omega) (by have := Nat.two_pow_pos n; omega)
    · omega
theorem bys_tb {F : Int → Bool} {k : Nat} : ∀ n : Nat, (bys F n).testBit k = (decide (k < n) && F k)
  | 0 => by unfold bys; rw [Nat.zero_testBit]; simp
  | n + 1 => by
    have ih := bys_tb (F := F) (k := k) n
    unfold bys
    by_cases q : k = n
    · subst q
      rw [show decide (k < k) = false by simp, Bool.false_and] at ih
      cases hF : F k
      · rw [if_neg (by decide), ih, Bool.and_false]
      · rw [if_pos rfl, Nat.testBit_or, Nat.testBit_two_pow_self, Bool.or_true]
        simp
    · rw [show decide (k < n + 1) = decide (k < n) by by_cases w : k < n <;> simp [w] <;> omega, ← ih]
      split
      · rw [Nat.testBit_or, Nat.testBit_two_pow_of_ne (fun e => q e.symm), Bool.or_false]
      · rfl
theorem bys_ext {F : Int → Bool} {n : Nat} : ∀ {m : Nat}, n ≤ m → (∀ i : Nat, n ≤ i → i < m → F i = false) → bys F m = bys F n
  | 0, e, _ => by rw [show n = 0 by omega]
  | m + 1, e, H => by
    by_cases q : n = m + 1
    · rw [q]
    · rw [show bys F (m + 1) = bys F m from if_neg (by rw [H m (by omega) (by omega)]; decide), bys_ext (m := m) (by omega) (fun i a b => H i a (by omega))]
theorem bys_step {F : Int → Bool} {n : Nat} (hn : n < 31) (hF : F n = true) : (i32 (bys F n : Int) ||| i32 ((i32 1 <<< (i32 (n : Int) &&& 31)).toInt)).toInt = (bys F (n + 1) : Int) := by
  have := bys_lt (F := F) n
  have e := Nat.pow_lt_pow_right (a := 2) (by decide) hn
  rw [shl_N hn, or_N (by omega) e]
  show _ = ((if F n = true then _ else _ : Nat) : Int)
  rw [if_pos hF]
/-- 1, where it is so -/
def ind (F : Int → Bool) (g : Int) : Int := if F g then 1 else 0
theorem ind_r {F : Int → Bool} {g : Int} : 0 ≤ ind F g ∧ ind F g ≤ 1 := by unfold ind; split <;> omega
-- how many bits, as Integer.bitCount reckons it
theorem spl {i u v m n : Nat} (hu : u < 2 ^ i) (hm : m < 2 ^ i) : (u + 2 ^ i * v) &&& (m + 2 ^ i * n) = (u &&& m) + 2 ^ i * (v &&& n) := by
  apply Nat.eq_of_testBit_eq
  intro j
  have h1 := Nat.testBit_two_pow_mul_add v hu j
  have h2 := Nat.testBit_two_pow_mul_add n hm j
  have h3 := Nat.testBit_two_pow_mul_add (v &&& n) (Nat.and_lt_two_pow u hm) j
  rw [Nat.testBit_and, Nat.add_comm u, Nat.add_comm m, Nat.add_comm (u &&& m), h1, h2, h3]
  split
  · rw [Nat.testBit_and]
  · rw [Nat.testBit_and]
def pca (x : Nat) : Nat := x - (x / 2 &&& 21845)
def pcb (y : Nat) : Nat := (y &&& 13107) + (y / 4 &&& 13107)
def pcc (z : Nat) : Nat := (z + z / 16) &&& 3855
def pc16 (y : Nat) : Nat := y % 2 + y / 2 % 2 + y / 4 % 2 + y / 8 % 2 + y / 16 % 2 + y / 32 % 2 + y / 64 % 2 + y / 128 % 2 + y / 256 % 2 + y / 512 % 2 + y / 1024 % 2 + y / 2048 % 2 + y / 4096 % 2 + y / 8192 % 2 + y / 16384 % 2 + y / 32768 % 2
def pct (x : Nat) : Bool := Nat.ble (pca x) 43690 && (Nat.ble (pcb (pca x)) 17476 && (Nat.beq (pcc (pcb (pca x)) % 256 + pcc (pcb (pca x)) / 256) (pc16 x) && (Nat.ble (pcc (pcb (pca x)) % 256) 8 && Nat.ble (pcc (pcb (pca x)) / 256) 8)))
def pcall : Nat → Nat → Bool
  | 0, x => pct x
  | k + 1, x => pcall k x && pcall k (x + 2 ^ k)
theorem pcall_of : ∀ (k x : Nat), pcall k x = true → ∀ y, x ≤ y → y < x + 2 ^ k → pct y = true
  | 0, x, h, y, a, b => by rw [show y = x by simp at b; omega]; exact h
  | k + 1, x, h, y, a, b => by
    unfold pcall at h
    rw [Bool.and_eq_true] at h
    rw [Nat.pow_succ] at b
    by_cases q : y < x + 2 ^ k
    · exact pcall_of k x h.1 y a q
    · exact pcall_of k (x + 2 ^ k) h.2 y (by omega) (by omega)
set_option maxRecDepth 100000 in
theorem pcall_16 : pcall 16 0 = true := by decide +kernel
theorem pct_of {x : Nat} (hx : x < 65536) : pca x ≤ 43690 ∧ pcb (pca x) ≤ 17476 ∧ pcc (pcb (pca x)) % 256 + pcc (pcb (pca x)) / 256 = pc16 x ∧ pcc (pcb (pca x)) % 256 ≤ 8 ∧ pcc (pcb (pca x)) / 256 ≤ 8 := by
  have h := pcall_of 16 0 pcall_16 x (Nat.zero_le _) (by omega)
  unfold pct at h
  simp only [Bool.and_eq_true, Nat.ble_eq, Nat.beq_eq] at h
  exact h
theorem and_pre {i u c m : Nat} (hu : u < 2 ^ i) (hm : m < 2 ^ i) : (u + 2 ^ i * c) &&& m = u &&& m := by
  have e := spl (v := c) (n := 0) hu hm
  rw [Nat.mul_zero, Nat.add_zero, Nat.and_zero, Nat.mul_zero, Nat.add_zero] at e
  exact e
theorem and_low {i s m : Nat} (hm : m < 2 ^ i) : s &&& m = s % 2 ^ i &&& m := by
  have e := and_pre (i := i) (u := s % 2 ^ i) (c := s / 2 ^ i) (Nat.mod_lt _ (Nat.two_pow_pos i)) hm
  rw [Nat.mod_add_div] at e
  exact e
theorem pcA {lo hi : Nat} (hl : lo < 65536) : (lo + 65536 * hi) - ((lo + 65536 * hi) / 2 &&& 1431655765) = pca lo + 65536 * pca hi := by
  have e : (lo + 65536 * hi) / 2 = (lo / 2 + 32768 * (hi % 2)) + 2 ^ 16 * (hi / 2) := by omega
  have e2 := spl (i := 16) (u := lo / 2 + 32768 * (hi % 2)) (v := hi / 2) (m := 21845) (n := 21845) (by omega) (by decide)
  have e3 := and_pre (i := 15) (u := lo / 2) (c := hi % 2) (m := 21845) (by omega) (by decide)
  have e3' : lo / 2 + 32768 * (hi % 2) &&& 21845 = lo / 2 &&& 21845 := e3
  have e2' : (lo / 2 + 32768 * (hi % 2)) + 2 ^ 16 * (hi / 2) &&& 1431655765 = (lo / 2 + 32768 * (hi % 2) &&& 21845) + 2 ^ 16 * (hi / 2 &&& 21845) := e2
  rw [e, e2', e3']
  unfold pca
  have := Nat.and_le_left (n := lo / 2) (m := 21845)
  have := Nat.and_le_left (n := hi / 2) (m := 21845)
  omega
theorem pcB {lo hi : Nat} (hl : lo < 65536) : (lo + 65536 * hi &&& 858993459) + ((lo + 65536 * hi) / 4 &&& 858993459) = pcb lo + 65536 * pcb hi := by
  have e : (lo + 65536 * hi) / 4 = (lo / 4 + 16384 * (hi % 4)) + 2 ^ 16 * (hi / 4) := by omega
  have e2 := spl (i := 16) (u := lo / 4 + 16384 * (hi % 4)) (v := hi / 4) (m := 13107) (n := 13107) (by omega) (by decide)
  have e3 := and_pre (i := 14) (u := lo / 4) (c := hi % 4) (m := 13107) (by omega) (by decide)
  have e3' : lo / 4 + 16384 * (hi % 4) &&& 13107 = lo / 4 &&& 13107 := e3
  have e2' : (lo / 4 + 16384 * (hi % 4)) + 2 ^ 16 * (hi / 4) &&& 858993459 = (lo / 4 + 16384 * (hi % 4) &&& 13107) + 2 ^ 16 * (hi / 4 &&& 13107) := e2
  have e4 : lo + 65536 * hi &&& 858993459 = (lo &&& 13107) + 2 ^ 16 * (hi &&& 13107) := spl (i := 16) (u := lo) (v := hi) (m := 13107) (n := 13107) hl (by decide)
  rw [e, e2', e3', e4]
  unfold pcb
  omega
theorem pcC {lo hi : Nat} (hl : lo ≤ 17476) (hh : hi % 16 ≤ 4) : (lo + 65536 * hi) + (lo + 65536 * hi) / 16 &&& 252645135 = pcc lo + 65536 * pcc hi := by
  have e : (lo + 65536 * hi) + (lo + 65536 * hi) / 16 = (lo + lo / 16 + 4096 * (hi % 16)) + 2 ^ 16 * (hi + hi / 16) := by omega
  have e2 : (lo + lo / 16 + 4096 * (hi % 16)) + 2 ^ 16 * (hi + hi / 16) &&& 252645135 = (lo + lo / 16 + 4096 * (hi % 16) &&& 3855) + 2 ^ 16 * (hi + hi / 16 &&& 3855) := spl (i := 16) (m := 3855) (n := 3855) (by omega) (by decide)
  have e3 : lo + lo / 16 + 4096 * (hi % 16) &&& 3855 = (lo + lo / 16 + 4096 * (hi % 16)) % 2 ^ 12 &&& 3855 := and_low (by decide)
  have e4 : lo + lo / 16 &&& 3855 = (lo + lo / 16) % 2 ^ 12 &&& 3855 := and_low (by decide)
  have e5 : (lo + lo / 16 + 4096 * (hi % 16)) % 2 ^ 12 = (lo + lo / 16) % 2 ^ 12 := by omega
  rw [e, e2, e3, e5, ← e4]
  rfl
theorem pch : ∀ x : Nat, x < 16 → pca x < 16 ∧ pcb (pca x) % 16 ≤ 4 ∧ pcc (pcb (pca x)) = pc16 x ∧ pc16 x ≤ 4 ∧ pcb (pca x) < 16 := by decide
