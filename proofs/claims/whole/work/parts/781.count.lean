-- ===== how many bits =====
/-- the bits of a number below 2^20 -/
def pcn (x : Nat) : Nat := pc16 (x % 65536) + pc16 (x / 65536)
theorem pcn_su {F : Int → Bool} : ((pcn (bys F 20) : Nat) : Int) = su (ind F) 20 := by
  have q : ∀ k : Nat, k < 20 → ((bys F 20 / 2 ^ k % 2 : Nat) : Int) = ind F k := by
    intro k hk
    have t := bys_tb (F := F) (k := k) 20
    rw [Nat.testBit_eq_decide_div_mod_eq, show decide (k < 20) = true by simp; omega, Bool.true_and] at t
    unfold ind
    rw [← t]
    rcases Nat.mod_two_eq_zero_or_one (bys F 20 / 2 ^ k) with w | w <;> rw [w] <;> simp
  have hl := bys_lt (F := F) 20
  have q0 := q 0 (by decide)
  have q1 := q 1 (by decide)
  have q2 := q 2 (by decide)
  have q3 := q 3 (by decide)
  have q4 := q 4 (by decide)
  have q5 := q 5 (by decide)
  have q6 := q 6 (by decide)
  have q7 := q 7 (by decide)
  have q8 := q 8 (by decide)
  have q9 := q 9 (by decide)
  have q10 := q 10 (by decide)
  have q11 := q 11 (by decide)
  have q12 := q 12 (by decide)
  have q13 := q 13 (by decide)
  have q14 := q 14 (by decide)
  have q15 := q 15 (by decide)
  have q16 := q 16 (by decide)
  have q17 := q 17 (by decide)
  have q18 := q 18 (by decide)
  have q19 := q 19 (by decide)
  simp only [su]
  rw [← q0, ← q1, ← q2, ← q3, ← q4, ← q5, ← q6, ← q7, ← q8, ← q9, ← q10, ← q11, ← q12, ← q13, ← q14, ← q15, ← q16, ← q17, ← q18, ← q19]
  clear q0 q1 q2 q3 q4 q5 q6 q7 q8 q9 q10 q11 q12 q13 q14 q15 q16 q17 q18 q19 q
  generalize bys F 20 = x at hl
  unfold pcn pc16
  simp only [show (2 : Nat) ^ 0 = 1 from rfl, show (2 : Nat) ^ 1 = 2 from rfl, show (2 : Nat) ^ 2 = 4 from rfl, show (2 : Nat) ^ 3 = 8 from rfl, show (2 : Nat) ^ 4 = 16 from rfl, show (2 : Nat) ^ 5 = 32 from rfl, show (2 : Nat) ^ 6 = 64 from rfl, show (2 : Nat) ^ 7 = 128 from rfl, show (2 : Nat) ^ 8 = 256 from rfl, show (2 : Nat) ^ 9 = 512 from rfl, show (2 : Nat) ^ 10 = 1024 from rfl, show (2 : Nat) ^ 11 = 2048 from rfl, show (2 : Nat) ^ 12 = 4096 from rfl, show (2 : Nat) ^ 13 = 8192 from rfl, show (2 : Nat) ^ 14 = 16384 from rfl, show (2 : Nat) ^ 15 = 32768 from rfl, show (2 : Nat) ^ 16 = 65536 from rfl, show (2 : Nat) ^ 17 = 131072 from rfl, show (2 : Nat) ^ 18 = 262144 from rfl, show (2 : Nat) ^ 19 = 524288 from rfl, show (2 : Nat) ^ 20 = 1048576 from rfl] at *
  have r0 : x % 65536 / 2 % 2 = x / 2 % 2 := by omega
  have r1 : x % 65536 / 4 % 2 = x / 4 % 2 := by omega
  have r2 : x % 65536 / 8 % 2 = x / 8 % 2 := by omega
  have r3 : x % 65536 / 16 % 2 = x / 16 % 2 := by omega
  have r4 : x % 65536 / 32 % 2 = x / 32 % 2 := by omega
  have r5 : x % 65536 / 64 % 2 = x / 64 % 2 := by omega
  have r6 : x % 65536 / 128 % 2 = x / 128 % 2 := by omega
  have r7 : x % 65536 / 256 % 2 = x / 256 % 2 := by omega
  have r8 : x % 65536 / 512 % 2 = x / 512 % 2 := by omega
  have r9 : x % 65536 / 1024 % 2 = x / 1024 % 2 := by omega
  have r10 : x % 65536 / 2048 % 2 = x / 2048 % 2 := by omega
  have r11 : x % 65536 / 4096 % 2 = x / 4096 % 2 := by omega
  have r12 : x % 65536 / 8192 % 2 = x / 8192 % 2 := by omega
  have r13 : x % 65536 / 16384 % 2 = x / 16384 % 2 := by omega
  have r14 : x % 65536 / 32768 % 2 = x / 32768 % 2 := by omega
  have r15 : x % 65536 % 2 = x / 1 % 2 := by omega
  have s1 : x / 65536 / 2 % 2 = x / 131072 % 2 := by omega
  have s2 : x / 65536 / 4 % 2 = x / 262144 % 2 := by omega
  have s3 : x / 65536 / 8 % 2 = x / 524288 % 2 := by omega
  have hz : x / 65536 < 16 := by omega
  have z : ∀ d : Nat, 16 ≤ d → x / 65536 / d = 0 := fun d hd => Nat.div_eq_of_lt (by omega)
  rw [r0, r1, r2, r3, r4, r5, r6, r7, r8, r9, r10, r11, r12, r13, r14, r15, s1, s2, s3, z 16 (by omega), z 32 (by omega), z 64 (by omega), z 128 (by omega), z 256 (by omega), z 512 (by omega), z 1024 (by omega), z 2048 (by omega), z 4096 (by omega), z 8192 (by omega), z 16384 (by omega), z 32768 (by omega)]
  generalize x / 1 % 2 = d0
  generalize x / 2 % 2 = d1
  generalize x / 4 % 2 = d2
  generalize x / 8 % 2 = d3
  generalize x / 16 % 2 = d4
  generalize x / 32 % 2 = d5
  generalize x / 64 % 2 = d6
  generalize x / 128 % 2 = d7
  generalize x / 256 % 2 = d8
  generalize x / 512 % 2 = d9
  generalize x / 1024 % 2 = d10
  generalize x / 2048 % 2 = d11
  generalize x / 4096 % 2 = d12
  generalize x / 8192 % 2 = d13
  generalize x / 16384 % 2 = d14
  generalize x / 32768 % 2 = d15
  generalize x / 65536 % 2 = d16
  generalize x / 131072 % 2 = d17
  generalize x / 262144 % 2 = d18
  generalize x / 524288 % 2 = d19
  clear r0 r1 r2 r3 r4 r5 r6 r7 r8 r9 r10 r11 r12 r13 r14 r15 s1 s2 s3 z hz hl
  omega
section
variable {X : Nat × (Int → Int)} {h : HP}
theorem K248 {n : Nat} (hn : n < 1048576) : Wp X 0 248 0 [vi (n : Int)] [] h (fun r h' => r = some (vi (pcn n : Int)) ∧ h' = h) := by
  have hl : n % 65536 < 65536 := by omega
  have t := pct_of hl
  have u := pch (n / 65536) (by omega)
  have en : n = n % 65536 + 65536 * (n / 65536) := by omega
  have A := pcA (lo := n % 65536) (hi := n / 65536) hl
  rw [← en] at A
  have B := pcB (lo := pca (n % 65536)) (hi := pca (n / 65536)) (by omega)
  rw [← A] at B
  have C := pcC (lo := pcb (pca (n % 65536))) (hi := pcb (pca (n / 65536))) (by omega) u.2.1
  rw [← B] at C
  have a1 : ((i32 (n : Int)).toUInt32 >>> ((i32 1).toUInt32 &&& Int32.toUInt32 31)).toInt32.toInt = ((n / 2 : Nat) : Int) := ushr_N (k := 1) (by omega) (by decide)
  have a2 : (i32 ((n / 2 : Nat) : Int) &&& i32 1431655765).toInt = ((n / 2 &&& 1431655765 : Nat) : Int) := and_N (b := 1431655765) (by omega) (by decide)
  have l1 := Nat.and_le_left (n := n / 2) (m := 1431655765)
  have a3 : (n : Int) - ((n / 2 &&& 1431655765 : Nat) : Int) = ((n - (n / 2 &&& 1431655765) : Nat) : Int) := by omega
  generalize hy : n - (n / 2 &&& 1431655765) = y at *
  have a4 : ((i32 (y : Int)).toUInt32 >>> ((i32 2).toUInt32 &&& Int32.toUInt32 31)).toInt32.toInt = ((y / 4 : Nat) : Int) := ushr_N (k := 2) (by omega) (by decide)
  have a5 : (i32 ((y / 4 : Nat) : Int) &&& i32 858993459).toInt = ((y / 4 &&& 858993459 : Nat) : Int) := and_N (b := 858993459) (by omega) (by decide)
  have a6 : (i32 (y : Int) &&& i32 858993459).toInt = ((y &&& 858993459 : Nat) : Int) := and_N (b := 858993459) (by omega) (by decide)
  have a7 : ((y &&& 858993459 : Nat) : Int) + ((y / 4 &&& 858993459 : Nat) : Int) = (((y &&& 858993459) + (y / 4 &&& 858993459) : Nat) : Int) := by omega
  have l2 := Nat.and_le_left (n := y / 4) (m := 858993459)
  have l3 := Nat.and_le_left (n := y) (m := 858993459)
  generalize hz : (y &&& 858993459) + (y / 4 &&& 858993459) = z at *
  have a8 : ((i32 (z : Int)).toUInt32 >>> ((i32 4).toUInt32 &&& Int32.toUInt32 31)).toInt32.toInt = ((z / 16 : Nat) : Int) := ushr_N (k := 4) (by omega) (by decide)
  have a9 : (z : Int) + ((z / 16 : Nat) : Int) = ((z + z / 16 : Nat) : Int) := by omega
  have a10 : (i32 ((z + z / 16 : Nat) : Int) &&& i32 252645135).toInt = ((z + z / 16 &&& 252645135 : Nat) : Int) := and_N (b := 252645135) (by omega) (by decide)
  have l4 := Nat.and_le_left (n := z + z / 16) (m := 252645135)
  generalize hw : z + z / 16 &&& 252645135 = w at *
  have a11 : ((i32 (w : Int)).toUInt32 >>> ((i32 8).toUInt32 &&& Int32.toUInt32 31)).toInt32.toInt = ((w / 256 : Nat) : Int) := ushr_N (k := 8) (by omega) (by decide)
  have a12 : (w : Int) + ((w / 256 : Nat) : Int) = ((w + w / 256 : Nat) : Int) := by omega
  have a13 : ((i32 ((w + w / 256 : Nat) : Int)).toUInt32 >>> ((i32 16).toUInt32 &&& Int32.toUInt32 31)).toInt32.toInt = (((w + w / 256) / 65536 : Nat) : Int) := ushr_N (k := 16) (by omega) (by decide)
  have a14 : ((w + w / 256 : Nat) : Int) + (((w + w / 256) / 65536 : Nat) : Int) = ((w + w / 256 + (w + w / 256) / 65536 : Nat) : Int) := by omega
  have a15 : (i32 ((w + w / 256 + (w + w / 256) / 65536 : Nat) : Int) &&& i32 63).toInt = ((w + w / 256 + (w + w / 256) / 65536 &&& 63 : Nat) : Int) := and_N (b := 63) (by omega) (by decide)
  have a16 : w + w / 256 + (w + w / 256) / 65536 &&& 63 = (w + w / 256 + (w + w / 256) / 65536) % 2 ^ 6 := Nat.and_two_pow_sub_one_eq_mod _ 6
  refine S248_0 (n : Int) ?_
  rw [a1, a2, a3, a4, a5, a6, a7, a8, a9, a10, a11, a12, a13, a14, a15, a16]
  refine ⟨by unfold R32; omega, by unfold R32; omega, by unfold R32; omega, by unfold R32; omega, by unfold R32; omega, ?_, rfl⟩
  unfold pcn
  have t3 := t.2.2.1
  have t4 := t.2.2.2.1
  have t5 := t.2.2.2.2
  have u3 := u.2.2.1
  have u4 := u.2.2.2.1
  clear a1 a2 a3 a4 a5 a6 a7 a8 a9 a10 a11 a12 a13 a14 a15 a16 l1 l2 l3 l4 A B hw hz hy t u
  rw [u3] at C
  generalize pcc (pcb (pca (n % 65536))) = L at *
  generalize pc16 (n / 65536) = f at *
  generalize pc16 (n % 65536) = c at *
  have w0 : L = L % 256 + 256 * (L / 256) := by omega
  generalize L % 256 = c0 at *
  generalize L / 256 = c1 at *
  have d1 : w / 256 = 256 * f + c1 := by omega
  have d2 : (w + w / 256) / 65536 = f := by rw [d1]; omega
  have d3 : w + w / 256 + (w + w / 256) / 65536 = (c0 + c1 + f) + 64 * (4 * c1 + 1024 * f + 4 * f) := by rw [d2, d1]; omega
  rw [d3, show (2 : Nat) ^ 6 = 64 from rfl, Nat.add_mul_mod_self_left, Nat.mod_eq_of_lt (by omega)]
  rw [show c0 + c1 + f = c + f by omega]
end
