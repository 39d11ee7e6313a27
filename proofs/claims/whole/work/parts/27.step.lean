-- ===== one instruction, all cases (by program: wip/whole/gen_snd.py) =====
theorem i32_bp {n : Int} (h1 : -128 ≤ n) (h2 : n < 128) : (Int8.ofInt n).toInt32 = i32 n := by
  apply Int32.toInt_inj.mp
  rw [Int8.toInt_toInt32, Int8.toInt_ofInt, i32_toInt]
  unfold w32
  rw [show (Int8.size : Nat) = 256 from rfl]
  rw [Int.bmod_eq_of_le (by omega) (by omega), Int.bmod_eq_of_le (by omega) (by omega)]
theorem i32_sp {n : Int} (h1 : -32768 ≤ n) (h2 : n < 32768) : (Int16.ofInt n).toInt32 = i32 n := by
  apply Int32.toInt_inj.mp
  rw [Int16.toInt_toInt32, Int16.toInt_ofInt, i32_toInt]
  unfold w32
  rw [show (Int16.size : Nat) = 65536 from rfl]
  rw [Int.bmod_eq_of_le (by omega) (by omega), Int.bmod_eq_of_le (by omega) (by omega)]
theorem lcp_i {a b : Int} (ha : R64 a) (hb : R64 b) : lg_cmp (i64 a) (i64 b) = i32 (lcp a b) := by
  unfold lg_cmp lcp
  by_cases h1 : b < a
  · rw [if_pos h1, if_pos ((i64_lt hb ha).mpr h1)]
    rfl
  · rw [if_neg h1, if_neg (fun q => h1 ((i64_lt hb ha).mp q))]
    by_cases h2 : a = b
    · rw [if_pos h2, if_pos ((i64_eq ha hb).mpr h2)]
      rfl
    · rw [if_neg h2, if_neg (fun q => h2 ((i64_eq ha hb).mp q))]
      rfl
theorem lcp_R (a b : Int) : R32 (lcp a b) := by
  unfold lcp R32
  split
  · omega
  · split <;> omega
theorem R64_32 {a : Int} (h : R32 a) : R64 a := ⟨by have := h.1; omega, by have := h.2; omega⟩
theorem lsw_off (pc : Nat) (d x : Int) : ∀ (ps ps' : List (Int × Int)), ps' = ps.map (fun q => (q.1, (pc : Int) + q.2)) → lsw ps' (pc + d) x = pc + Op.lookupswitch.offset ps d x
  | [], ps', h => by subst h; rfl
  | (k, t) :: r, ps', h => by
    subst h
    show (if x = k then (pc : Int) + t else lsw (r.map (fun q => (q.1, (pc : Int) + q.2))) (pc + d) x) = _
    rw [lsw_off pc d x r _ rfl]
    rw [Op.lookupswitch.offset_cons]
    by_cases e : x = k
    · rw [if_pos e, if_pos e.symm]
    · rw [if_neg e, if_neg (fun q => e q.symm)]
theorem lsw_nn : ∀ (ps : List (Int × Int)) (d x : Int), 0 ≤ d → (ps.all fun q => decide (0 ≤ q.2)) = true → 0 ≤ lsw ps d x
  | [], d, x, h, _ => h
  | (k, t) :: r, d, x, h, h2 => by
    simp only [List.all_cons, Bool.and_eq_true, decide_eq_true_eq] at h2
    unfold lsw
    split
    · exact h2.1
    · exact lsw_nn r d x h h2.2
section SD
variable {p : Program} {l : Launch} {e : Env} {R : Room} {s : State} {m : MethodId} {args : Array Value} {below : List Frame} {meth : Method} {c : Code} {Q : State → Prop} {D : sD} {M n0 t0 : Nat}
variable {L st r : List aV} {sh : SH} {h : HP} {H : Heap} {ls : Array Slot} {locs : List Loc} {cells slots pc : Nat}
theorem cons_eq {v : aV} {w : Value} (he : rv D v = w) (k : W p l e R s m args below meth c H locs cells slots Q (F0 m pc ls ((v :: r).map (rv D)))) : W p l e R s m args below meth c H locs cells slots Q (F0 m pc ls (w :: r.map (rv D))) := he ▸ k
theorem fR_0 {n c j : Nat} {x : Int} (h : fkd (64 * c + j) = 0) (hx : R32 x) : fR n c j x := by
  unfold fR; rw [h]; exact hx
theorem fR_1 {n c j : Nat} {x : Int} (h : fkd (64 * c + j) = 1) (hx : R64 x) : fR n c j x := by
  unfold fR; rw [h]; exact hx
theorem fR_2 {n c j : Nat} {x : Int} (h : fkd (64 * c + j) = 2 ∨ fkd (64 * c + j) = 3) (hx : 0 ≤ x ∧ x < n) : fR n c j x := by
  unfold fR; rcases h with h | h <;> rw [h] <;> exact hx
theorem fbk_get {k kd : Nat} (h : fbk k kd = true) : fkd (64 * (k / 64) + k % 64) = kd ∧ k / 64 < 12 ∧ k % 64 < nF (k / 64) := by
  unfold fbk at h
  simp only [Bool.and_eq_true] at h
  refine ⟨?_, Nat.blt_eq.mp h.2.1, Nat.blt_eq.mp h.2.2⟩
  rw [Nat.div_add_mod]
  exact Nat.eq_of_beq_eq_true h.1
theorem fits_ref {ty : FieldType} (h : ty.isReference = true) (a : Nat) : narrow ty (rv D (vr a)) = rv D (vr a) ∧ fits ty (rv D (vr a)) = true := by
  have e : rv D (vr a) = .null ∨ ∃ q, rv D (vr a) = .ref q := by
    rw [rv_vr_kept]
    split
    · exact Or.inl rfl
    · exact Or.inr ⟨_, rfl⟩
  rcases e with e | ⟨q, e⟩ <;> rw [e] <;> cases ty <;> first | exact ⟨rfl, rfl⟩ | cases h
set_option maxHeartbeats 8000000 in
set_option maxRecDepth 20000 in
theorem snd_step (X : FX p s m args meth c D M) (hrm : 1 ≤ R.frames ∧ 60 ≤ R.locals) {ri ai : Instr} {len : Nat} (hd : decode (bc M) pc = .ok (ri, len)) (hl : okL ri len = true) (hi : okI (ocl M) (isN M) pc ri ai = true) (hR : SRel D M sh h L st H ls) (hF : va_S (fun q => D.2.2.2.1 ≤ q) s.heap H locs) (hc : cells + n0 = sh.length) (ht : slots + t0 = tot sh) (hst : stp (isN M) ai (pc + len) L st sh h (KK p l e R s m args below meth c Q D M n0 t0)) : W p l e R s m args below meth c H locs cells slots Q (F0 m pc ls (st.map (rv D))) := by
  obtain ⟨⟨hx, hbc, hml⟩, ⟨hown, hts⟩, -, hKT⟩ := id X
  cases ri
  case iadd =>
    obtain rfl : ai = .iadd := of_decide_eq_true hi
    obtain rfl : len = 1 := Nat.eq_of_beq_eq_true hl
    dsimp only [stp] at hst
    unfold bin at hst
    have hS := hR.2.1
    obtain ⟨b, r1, hrr, hst1⟩ := sI_inv hst
    clear hst
    have hst := hst1
    clear hst1
    subst hrr
    obtain ⟨hb, hS1⟩ := List.forall_mem_cons.mp hS
    clear hS
    have hS := hS1
    clear hS1
    obtain ⟨a, r1, hrr, hst1⟩ := sI_inv hst
    clear hst
    have hst := hst1
    clear hst1
    subst hrr
    obtain ⟨ha, hS1⟩ := List.forall_mem_cons.mp hS
    clear hS
    have hS := hS1
    clear hS1
    refine lv_iadd hx hbc hd ?_
    exact cons_eq (by exact congrArg Value.int (i32_add a b)) (KK.same hst hR hF hc ht (ok_c (w32_R _) hS))
  case isub =>
    obtain rfl : ai = .isub := of_decide_eq_true hi
    obtain rfl : len = 1 := Nat.eq_of_beq_eq_true hl
    dsimp only [stp] at hst
    unfold bin at hst
    have hS := hR.2.1
    obtain ⟨b, r1, hrr, hst1⟩ := sI_inv hst
    clear hst
    have hst := hst1
    clear hst1
    subst hrr
    obtain ⟨hb, hS1⟩ := List.forall_mem_cons.mp hS
    clear hS
    have hS := hS1
    clear hS1
    obtain ⟨a, r1, hrr, hst1⟩ := sI_inv hst
    clear hst
    have hst := hst1
    clear hst1
    subst hrr
    obtain ⟨ha, hS1⟩ := List.forall_mem_cons.mp hS
    clear hS
    have hS := hS1
    clear hS1
    refine lv_isub hx hbc hd ?_
    exact cons_eq (by exact congrArg Value.int (i32_sub a b)) (KK.same hst hR hF hc ht (ok_c (w32_R _) hS))
  case imul =>
    obtain rfl : ai = .imul := of_decide_eq_true hi
    obtain rfl : len = 1 := Nat.eq_of_beq_eq_true hl
    dsimp only [stp] at hst
    unfold bin at hst
    have hS := hR.2.1
    obtain ⟨b, r1, hrr, hst1⟩ := sI_inv hst
    clear hst
    have hst := hst1
    clear hst1
    subst hrr
    obtain ⟨hb, hS1⟩ := List.forall_mem_cons.mp hS
    clear hS
    have hS := hS1
    clear hS1
    obtain ⟨a, r1, hrr, hst1⟩ := sI_inv hst
    clear hst
    have hst := hst1
    clear hst1
    subst hrr
    obtain ⟨ha, hS1⟩ := List.forall_mem_cons.mp hS
    clear hS
    have hS := hS1
    clear hS1
    refine lv_imul hx hbc hd ?_
    exact cons_eq (by exact congrArg Value.int (i32_mul a b)) (KK.same hst hR hF hc ht (ok_c (w32_R _) hS))
  case iand =>
    obtain rfl : ai = .iand := of_decide_eq_true hi
    obtain rfl : len = 1 := Nat.eq_of_beq_eq_true hl
    dsimp only [stp] at hst
    unfold bin at hst
    have hS := hR.2.1
    obtain ⟨b, r1, hrr, hst1⟩ := sI_inv hst
    clear hst
    have hst := hst1
    clear hst1
    subst hrr
    obtain ⟨hb, hS1⟩ := List.forall_mem_cons.mp hS
    clear hS
    have hS := hS1
    clear hS1
    obtain ⟨a, r1, hrr, hst1⟩ := sI_inv hst
    clear hst
    have hst := hst1
    clear hst1
    subst hrr
    obtain ⟨ha, hS1⟩ := List.forall_mem_cons.mp hS
    clear hS
    have hS := hS1
    clear hS1
    refine lv_iand hx hbc hd ?_
    exact cons_eq (by exact congrArg Value.int (i32_of _)) (KK.same hst hR hF hc ht (ok_c (R32_of _) hS))
  case ior =>
    obtain rfl : ai = .ior := of_decide_eq_true hi
    obtain rfl : len = 1 := Nat.eq_of_beq_eq_true hl
    dsimp only [stp] at hst
    unfold bin at hst
    have hS := hR.2.1
    obtain ⟨b, r1, hrr, hst1⟩ := sI_inv hst
    clear hst
    have hst := hst1
    clear hst1
    subst hrr
    obtain ⟨hb, hS1⟩ := List.forall_mem_cons.mp hS
    clear hS
    have hS := hS1
    clear hS1
    obtain ⟨a, r1, hrr, hst1⟩ := sI_inv hst
    clear hst
    have hst := hst1
    clear hst1
    subst hrr
    obtain ⟨ha, hS1⟩ := List.forall_mem_cons.mp hS
    clear hS
    have hS := hS1
    clear hS1
    refine lv_ior hx hbc hd ?_
    exact cons_eq (by exact congrArg Value.int (i32_of _)) (KK.same hst hR hF hc ht (ok_c (R32_of _) hS))
  case ishl =>
    obtain rfl : ai = .ishl := of_decide_eq_true hi
    obtain rfl : len = 1 := Nat.eq_of_beq_eq_true hl
    dsimp only [stp] at hst
    unfold bin at hst
    have hS := hR.2.1
    obtain ⟨b, r1, hrr, hst1⟩ := sI_inv hst
    clear hst
    have hst := hst1
    clear hst1
    subst hrr
    obtain ⟨hb, hS1⟩ := List.forall_mem_cons.mp hS
    clear hS
    have hS := hS1
    clear hS1
    obtain ⟨a, r1, hrr, hst1⟩ := sI_inv hst
    clear hst
    have hst := hst1
    clear hst1
    subst hrr
    obtain ⟨ha, hS1⟩ := List.forall_mem_cons.mp hS
    clear hS
    have hS := hS1
    clear hS1
    refine lv_ishl hx hbc hd ?_
    exact cons_eq (by exact congrArg Value.int (i32_of _)) (KK.same hst hR hF hc ht (ok_c (R32_of _) hS))
  case ishr =>
    obtain rfl : ai = .ishr := of_decide_eq_true hi
    obtain rfl : len = 1 := Nat.eq_of_beq_eq_true hl
    dsimp only [stp] at hst
    unfold bin at hst
    have hS := hR.2.1
    obtain ⟨b, r1, hrr, hst1⟩ := sI_inv hst
    clear hst
    have hst := hst1
    clear hst1
    subst hrr
    obtain ⟨hb, hS1⟩ := List.forall_mem_cons.mp hS
    clear hS
    have hS := hS1
    clear hS1
    obtain ⟨a, r1, hrr, hst1⟩ := sI_inv hst
    clear hst
    have hst := hst1
    clear hst1
    subst hrr
    obtain ⟨ha, hS1⟩ := List.forall_mem_cons.mp hS
    clear hS
    have hS := hS1
    clear hS1
    refine lv_ishr hx hbc hd ?_
    exact cons_eq (by exact congrArg Value.int (i32_of _)) (KK.same hst hR hF hc ht (ok_c (R32_of _) hS))
  case iushr =>
    obtain rfl : ai = .iushr := of_decide_eq_true hi
    obtain rfl : len = 1 := Nat.eq_of_beq_eq_true hl
    dsimp only [stp] at hst
    unfold bin at hst
    have hS := hR.2.1
    obtain ⟨b, r1, hrr, hst1⟩ := sI_inv hst
    clear hst
    have hst := hst1
    clear hst1
    subst hrr
    obtain ⟨hb, hS1⟩ := List.forall_mem_cons.mp hS
    clear hS
    have hS := hS1
    clear hS1
    obtain ⟨a, r1, hrr, hst1⟩ := sI_inv hst
    clear hst
    have hst := hst1
    clear hst1
    subst hrr
    obtain ⟨ha, hS1⟩ := List.forall_mem_cons.mp hS
    clear hS
    have hS := hS1
    clear hS1
    refine lv_iushr hx hbc hd rfl ?_
    exact cons_eq (by exact congrArg Value.int (i32_of _)) (KK.same hst hR hF hc ht (ok_c (R32_of _) hS))
  case ladd =>
    obtain rfl : ai = .ladd := of_decide_eq_true hi
    obtain rfl : len = 1 := Nat.eq_of_beq_eq_true hl
    dsimp only [stp] at hst
    unfold binL at hst
    have hS := hR.2.1
    obtain ⟨b, r1, hrr, hst1⟩ := sL_inv hst
    clear hst
    have hst := hst1
    clear hst1
    subst hrr
    obtain ⟨hb, hS1⟩ := List.forall_mem_cons.mp hS
    clear hS
    have hS := hS1
    clear hS1
    obtain ⟨a, r1, hrr, hst1⟩ := sL_inv hst
    clear hst
    have hst := hst1
    clear hst1
    subst hrr
    obtain ⟨ha, hS1⟩ := List.forall_mem_cons.mp hS
    clear hS
    have hS := hS1
    clear hS1
    refine lv_ladd hx hbc hd ?_
    exact cons_eq (by exact congrArg Value.long (i64_add a b)) (KK.same hst hR hF hc ht (ok_c (w64_R _) hS))
  case lsub =>
    obtain rfl : ai = .lsub := of_decide_eq_true hi
    obtain rfl : len = 1 := Nat.eq_of_beq_eq_true hl
    dsimp only [stp] at hst
    unfold binL at hst
    have hS := hR.2.1
    obtain ⟨b, r1, hrr, hst1⟩ := sL_inv hst
    clear hst
    have hst := hst1
    clear hst1
    subst hrr
    obtain ⟨hb, hS1⟩ := List.forall_mem_cons.mp hS
    clear hS
    have hS := hS1
    clear hS1
    obtain ⟨a, r1, hrr, hst1⟩ := sL_inv hst
    clear hst
    have hst := hst1
    clear hst1
    subst hrr
    obtain ⟨ha, hS1⟩ := List.forall_mem_cons.mp hS
    clear hS
    have hS := hS1
    clear hS1
    refine lv_lsub hx hbc hd ?_
    exact cons_eq (by exact congrArg Value.long (i64_sub a b)) (KK.same hst hR hF hc ht (ok_c (w64_R _) hS))
  case lmul =>
    obtain rfl : ai = .lmul := of_decide_eq_true hi
    obtain rfl : len = 1 := Nat.eq_of_beq_eq_true hl
    dsimp only [stp] at hst
    unfold binL at hst
    have hS := hR.2.1
    obtain ⟨b, r1, hrr, hst1⟩ := sL_inv hst
    clear hst
    have hst := hst1
    clear hst1
    subst hrr
    obtain ⟨hb, hS1⟩ := List.forall_mem_cons.mp hS
    clear hS
    have hS := hS1
    clear hS1
    obtain ⟨a, r1, hrr, hst1⟩ := sL_inv hst
    clear hst
    have hst := hst1
    clear hst1
    subst hrr
    obtain ⟨ha, hS1⟩ := List.forall_mem_cons.mp hS
    clear hS
    have hS := hS1
    clear hS1
    refine lv_lmul hx hbc hd ?_
    exact cons_eq (by exact congrArg Value.long (i64_mul a b)) (KK.same hst hR hF hc ht (ok_c (w64_R _) hS))
  case land =>
    obtain rfl : ai = .land := of_decide_eq_true hi
    obtain rfl : len = 1 := Nat.eq_of_beq_eq_true hl
    dsimp only [stp] at hst
    unfold binL at hst
    have hS := hR.2.1
    obtain ⟨b, r1, hrr, hst1⟩ := sL_inv hst
    clear hst
    have hst := hst1
    clear hst1
    subst hrr
    obtain ⟨hb, hS1⟩ := List.forall_mem_cons.mp hS
    clear hS
    have hS := hS1
    clear hS1
    obtain ⟨a, r1, hrr, hst1⟩ := sL_inv hst
    clear hst
    have hst := hst1
    clear hst1
    subst hrr
    obtain ⟨ha, hS1⟩ := List.forall_mem_cons.mp hS
    clear hS
    have hS := hS1
    clear hS1
    refine lv_land hx hbc hd ?_
    exact cons_eq (by exact congrArg Value.long (i64_of _)) (KK.same hst hR hF hc ht (ok_c (R64_of _) hS))
  case lor =>
    obtain rfl : ai = .lor := of_decide_eq_true hi
    obtain rfl : len = 1 := Nat.eq_of_beq_eq_true hl
    dsimp only [stp] at hst
    unfold binL at hst
    have hS := hR.2.1
    obtain ⟨b, r1, hrr, hst1⟩ := sL_inv hst
    clear hst
    have hst := hst1
    clear hst1
    subst hrr
    obtain ⟨hb, hS1⟩ := List.forall_mem_cons.mp hS
    clear hS
    have hS := hS1
    clear hS1
    obtain ⟨a, r1, hrr, hst1⟩ := sL_inv hst
    clear hst
    have hst := hst1
    clear hst1
    subst hrr
    obtain ⟨ha, hS1⟩ := List.forall_mem_cons.mp hS
    clear hS
    have hS := hS1
    clear hS1
    refine lv_lor hx hbc hd ?_
    exact cons_eq (by exact congrArg Value.long (i64_of _)) (KK.same hst hR hF hc ht (ok_c (R64_of _) hS))
  case lxor =>
    obtain rfl : ai = .lxor := of_decide_eq_true hi
    obtain rfl : len = 1 := Nat.eq_of_beq_eq_true hl
    dsimp only [stp] at hst
    unfold binL at hst
    have hS := hR.2.1
    obtain ⟨b, r1, hrr, hst1⟩ := sL_inv hst
    clear hst
    have hst := hst1
    clear hst1
    subst hrr
    obtain ⟨hb, hS1⟩ := List.forall_mem_cons.mp hS
    clear hS
    have hS := hS1
    clear hS1
    obtain ⟨a, r1, hrr, hst1⟩ := sL_inv hst
    clear hst
    have hst := hst1
    clear hst1
    subst hrr
    obtain ⟨ha, hS1⟩ := List.forall_mem_cons.mp hS
    clear hS
    have hS := hS1
    clear hS1
    refine lv_lxor hx hbc hd ?_
    exact cons_eq (by exact congrArg Value.long (i64_of _)) (KK.same hst hR hF hc ht (ok_c (R64_of _) hS))
  case lshl =>
    obtain rfl : ai = .lshl := of_decide_eq_true hi
    obtain rfl : len = 1 := Nat.eq_of_beq_eq_true hl
    dsimp only [stp] at hst
    have hS := hR.2.1
    obtain ⟨b, r1, hrr, hst1⟩ := sI_inv hst
    clear hst
    have hst := hst1
    clear hst1
    subst hrr
    obtain ⟨hb, hS1⟩ := List.forall_mem_cons.mp hS
    clear hS
    have hS := hS1
    clear hS1
    obtain ⟨a, r1, hrr, hst1⟩ := sL_inv hst
    clear hst
    have hst := hst1
    clear hst1
    subst hrr
    obtain ⟨ha, hS1⟩ := List.forall_mem_cons.mp hS
    clear hS
    have hS := hS1
    clear hS1
    refine lv_lshl hx hbc hd rfl ?_
    exact cons_eq (by exact congrArg Value.long (i64_of _)) (KK.same hst hR hF hc ht (ok_c (R64_of _) hS))
  case lushr =>
    obtain rfl : ai = .lushr := of_decide_eq_true hi
    obtain rfl : len = 1 := Nat.eq_of_beq_eq_true hl
    dsimp only [stp] at hst
    have hS := hR.2.1
    obtain ⟨b, r1, hrr, hst1⟩ := sI_inv hst
    clear hst
    have hst := hst1
    clear hst1
    subst hrr
    obtain ⟨hb, hS1⟩ := List.forall_mem_cons.mp hS
    clear hS
    have hS := hS1
    clear hS1
    obtain ⟨a, r1, hrr, hst1⟩ := sL_inv hst
    clear hst
    have hst := hst1
    clear hst1
    subst hrr
    obtain ⟨ha, hS1⟩ := List.forall_mem_cons.mp hS
    clear hS
    have hS := hS1
    clear hS1
    refine lv_lushr hx hbc hd rfl ?_
    exact cons_eq (by exact congrArg Value.long (i64_of _)) (KK.same hst hR hF hc ht (ok_c (R64_of _) hS))
  case idiv =>
    obtain rfl : ai = .idiv := of_decide_eq_true hi
    obtain rfl : len = 1 := Nat.eq_of_beq_eq_true hl
    dsimp only [stp] at hst
    have hS := hR.2.1
    obtain ⟨b, r1, hrr, hst1⟩ := sI_inv hst
    clear hst
    have hst := hst1
    clear hst1
    subst hrr
    obtain ⟨hb, hS1⟩ := List.forall_mem_cons.mp hS
    clear hS
    have hS := hS1
    clear hS1
    obtain ⟨a, r1, hrr, hst1⟩ := sI_inv hst
    clear hst
    have hst := hst1
    clear hst1
    subst hrr
    obtain ⟨ha, hS1⟩ := List.forall_mem_cons.mp hS
    clear hS
    have hS := hS1
    clear hS1
    refine lv_idiv hx hbc hd (i32_ne0 hb hst.1) ?_
    have hst := hst.2
    exact cons_eq (by exact congrArg Value.int (i32_div ha hb)) (KK.same hst hR hF hc ht (ok_c (w32_R _) hS))
  case irem =>
    obtain rfl : ai = .irem := of_decide_eq_true hi
    obtain rfl : len = 1 := Nat.eq_of_beq_eq_true hl
    dsimp only [stp] at hst
    have hS := hR.2.1
    obtain ⟨b, r1, hrr, hst1⟩ := sI_inv hst
    clear hst
    have hst := hst1
    clear hst1
    subst hrr
    obtain ⟨hb, hS1⟩ := List.forall_mem_cons.mp hS
    clear hS
    have hS := hS1
    clear hS1
    obtain ⟨a, r1, hrr, hst1⟩ := sI_inv hst
    clear hst
    have hst := hst1
    clear hst1
    subst hrr
    obtain ⟨ha, hS1⟩ := List.forall_mem_cons.mp hS
    clear hS
    have hS := hS1
    clear hS1
    refine lv_irem hx hbc hd (i32_ne0 hb hst.1) ?_
    have hst := hst.2
    exact cons_eq (by exact congrArg Value.int (i32_rem ha hb)) (KK.same hst hR hF hc ht (ok_c (tmod_R (by decide) (by decide) ha) hS))
  case ldiv =>
    obtain rfl : ai = .ldiv := of_decide_eq_true hi
    obtain rfl : len = 1 := Nat.eq_of_beq_eq_true hl
    dsimp only [stp] at hst
    have hS := hR.2.1
    obtain ⟨b, r1, hrr, hst1⟩ := sL_inv hst
    clear hst
    have hst := hst1
    clear hst1
    subst hrr
    obtain ⟨hb, hS1⟩ := List.forall_mem_cons.mp hS
    clear hS
    have hS := hS1
    clear hS1
    obtain ⟨a, r1, hrr, hst1⟩ := sL_inv hst
    clear hst
    have hst := hst1
    clear hst1
    subst hrr
    obtain ⟨ha, hS1⟩ := List.forall_mem_cons.mp hS
    clear hS
    have hS := hS1
    clear hS1
    refine lv_ldiv hx hbc hd (i64_ne0 hb hst.1) ?_
    have hst := hst.2
    exact cons_eq (by exact congrArg Value.long (i64_div ha hb)) (KK.same hst hR hF hc ht (ok_c (w64_R _) hS))
  case lrem =>
    obtain rfl : ai = .lrem := of_decide_eq_true hi
    obtain rfl : len = 1 := Nat.eq_of_beq_eq_true hl
    dsimp only [stp] at hst
    have hS := hR.2.1
    obtain ⟨b, r1, hrr, hst1⟩ := sL_inv hst
    clear hst
    have hst := hst1
    clear hst1
    subst hrr
    obtain ⟨hb, hS1⟩ := List.forall_mem_cons.mp hS
    clear hS
    have hS := hS1
    clear hS1
    obtain ⟨a, r1, hrr, hst1⟩ := sL_inv hst
    clear hst
    have hst := hst1
    clear hst1
    subst hrr
    obtain ⟨ha, hS1⟩ := List.forall_mem_cons.mp hS
    clear hS
    have hS := hS1
    clear hS1
    refine lv_lrem hx hbc hd (i64_ne0 hb hst.1) ?_
    have hst := hst.2
    exact cons_eq (by exact congrArg Value.long (i64_rem ha hb)) (KK.same hst hR hF hc ht (ok_c (tmod_R (by decide) (by decide) ha) hS))
  case ineg =>
    obtain rfl : ai = .ineg := of_decide_eq_true hi
    obtain rfl : len = 1 := Nat.eq_of_beq_eq_true hl
    dsimp only [stp] at hst
    have hS := hR.2.1
    obtain ⟨a, r1, hrr, hst1⟩ := sI_inv hst
    clear hst
    have hst := hst1
    clear hst1
    subst hrr
    obtain ⟨ha, hS1⟩ := List.forall_mem_cons.mp hS
    clear hS
    have hS := hS1
    clear hS1
    refine lv_ineg hx hbc hd ?_
    exact cons_eq (by exact congrArg Value.int (i32_neg a)) (KK.same hst hR hF hc ht (ok_c (w32_R _) hS))
  case lneg =>
    obtain rfl : ai = .lneg := of_decide_eq_true hi
    obtain rfl : len = 1 := Nat.eq_of_beq_eq_true hl
    dsimp only [stp] at hst
    have hS := hR.2.1
    obtain ⟨a, r1, hrr, hst1⟩ := sL_inv hst
    clear hst
    have hst := hst1
    clear hst1
    subst hrr
    obtain ⟨ha, hS1⟩ := List.forall_mem_cons.mp hS
    clear hS
    have hS := hS1
    clear hS1
    refine lv_lneg hx hbc hd ?_
    exact cons_eq (by exact congrArg Value.long (i64_neg a)) (KK.same hst hR hF hc ht (ok_c (w64_R _) hS))
  case lcmp =>
    obtain rfl : ai = .lcmp := of_decide_eq_true hi
    obtain rfl : len = 1 := Nat.eq_of_beq_eq_true hl
    dsimp only [stp] at hst
    have hS := hR.2.1
    obtain ⟨b, r1, hrr, hst1⟩ := sL_inv hst
    clear hst
    have hst := hst1
    clear hst1
    subst hrr
    obtain ⟨hb, hS1⟩ := List.forall_mem_cons.mp hS
    clear hS
    have hS := hS1
    clear hS1
    obtain ⟨a, r1, hrr, hst1⟩ := sL_inv hst
    clear hst
    have hst := hst1
    clear hst1
    subst hrr
    obtain ⟨ha, hS1⟩ := List.forall_mem_cons.mp hS
    clear hS
    have hS := hS1
    clear hS1
    refine W.lcmp hx hbc hd ?_
    exact cons_eq (by exact congrArg Value.int (lcp_i ha hb).symm) (KK.same hst hR hF hc ht (ok_c (lcp_R _ _) hS))
  case i2l =>
    obtain rfl : ai = .i2l := of_decide_eq_true hi
    obtain rfl : len = 1 := Nat.eq_of_beq_eq_true hl
    dsimp only [stp] at hst
    have hS := hR.2.1
    obtain ⟨a, r1, hrr, hst1⟩ := sI_inv hst
    clear hst
    have hst := hst1
    clear hst1
    subst hrr
    obtain ⟨ha, hS1⟩ := List.forall_mem_cons.mp hS
    clear hS
    have hS := hS1
    clear hS1
    refine lv_i2l hx hbc hd rfl ?_
    exact cons_eq (by exact congrArg Value.long (i32_l ha).symm) (KK.same hst hR hF hc ht (ok_c (R64_32 ha) hS))
  case l2i =>
    obtain rfl : ai = .l2i := of_decide_eq_true hi
    obtain rfl : len = 1 := Nat.eq_of_beq_eq_true hl
    dsimp only [stp] at hst
    have hS := hR.2.1
    obtain ⟨a, r1, hrr, hst1⟩ := sL_inv hst
    clear hst
    have hst := hst1
    clear hst1
    subst hrr
    obtain ⟨ha, hS1⟩ := List.forall_mem_cons.mp hS
    clear hS
    have hS := hS1
    clear hS1
    refine lv_l2i hx hbc hd rfl ?_
    exact cons_eq (by exact congrArg Value.int (i64_i a).symm) (KK.same hst hR hF hc ht (ok_c (w32_R _) hS))
  case i2b =>
    obtain rfl : ai = .i2b := of_decide_eq_true hi
    obtain rfl : len = 1 := Nat.eq_of_beq_eq_true hl
    dsimp only [stp] at hst
    have hS := hR.2.1
    obtain ⟨a, r1, hrr, hst1⟩ := sI_inv hst
    clear hst
    have hst := hst1
    clear hst1
    subst hrr
    obtain ⟨ha, hS1⟩ := List.forall_mem_cons.mp hS
    clear hS
    have hS := hS1
    clear hS1
    refine lv_i2b hx hbc hd rfl ?_
    have h1 := Int.le_bmod (x := a) (m := 256) (by decide)
    have h2 := Int.bmod_lt (x := a) (m := 256) (by decide)
    exact cons_eq (by exact congrArg Value.int (i32_b a).symm) (KK.same hst hR hF hc ht (ok_c (show R32 _ from ⟨by omega, by omega⟩) hS))
  case i2s =>
    obtain rfl : ai = .i2s := of_decide_eq_true hi
    obtain rfl : len = 1 := Nat.eq_of_beq_eq_true hl
    dsimp only [stp] at hst
    have hS := hR.2.1
    obtain ⟨a, r1, hrr, hst1⟩ := sI_inv hst
    clear hst
    have hst := hst1
    clear hst1
    subst hrr
    obtain ⟨ha, hS1⟩ := List.forall_mem_cons.mp hS
    clear hS
    have hS := hS1
    clear hS1
    refine lv_i2s hx hbc hd rfl ?_
    have h1 := Int.le_bmod (x := a) (m := 65536) (by decide)
    have h2 := Int.bmod_lt (x := a) (m := 65536) (by decide)
    exact cons_eq (by exact congrArg Value.int (i32_s a).symm) (KK.same hst hR hF hc ht (ok_c (show R32 _ from ⟨by omega, by omega⟩) hS))
  case iconst n =>
    simp only [okI, Bool.and_eq_true, decide_eq_true_eq] at hi
    obtain ⟨rfl, h1, h2⟩ := hi
    obtain rfl : len = 1 := Nat.eq_of_beq_eq_true hl
    dsimp only [stp] at hst
    have hS := hR.2.1
    refine lv_iconst (v := i32 n) hx hbc hd rfl ?_
    exact cons_eq (by exact rfl) (KK.same hst hR hF hc ht (ok_c (show R32 n from ⟨by omega, by omega⟩) hS))
  case bipush n =>
    simp only [okI, Bool.and_eq_true, decide_eq_true_eq] at hi
    obtain ⟨rfl, h1, h2⟩ := hi
    obtain rfl : len = 2 := Nat.eq_of_beq_eq_true hl
    dsimp only [stp] at hst
    have hS := hR.2.1
    refine lv_bipush (v := i32 n) hx hbc hd (i32_bp h1 h2) ?_
    exact cons_eq (by exact rfl) (KK.same hst hR hF hc ht (ok_c (show R32 n from ⟨by omega, by omega⟩) hS))
  case sipush n =>
    simp only [okI, Bool.and_eq_true, decide_eq_true_eq] at hi
    obtain ⟨rfl, h1, h2⟩ := hi
    obtain rfl : len = 3 := Nat.eq_of_beq_eq_true hl
    dsimp only [stp] at hst
    have hS := hR.2.1
    refine lv_sipush (v := i32 n) hx hbc hd (i32_sp h1 h2) ?_
    exact cons_eq (by exact rfl) (KK.same hst hR hF hc ht (ok_c (show R32 n from ⟨by omega, by omega⟩) hS))
  case ldc i =>
    cases ai <;> try cases hi
    case iconst n =>
      simp only [okI, Bool.and_eq_true, decide_eq_true_eq] at hi
      obtain ⟨h0, h1, h2⟩ := hi
      obtain rfl : len = 2 := Nat.eq_of_beq_eq_true hl
      dsimp only [stp] at hst
      have hS := hR.2.1
      refine lv_ldc (v := i32 n) hx hbc hown (hts _ (ckk_word h0) rfl) hd ?_
      exact cons_eq (by exact rfl) (KK.same hst hR hF hc ht (ok_c (show R32 n from ⟨h1, h2⟩) hS))
  case ldc_w i =>
    cases ai <;> try cases hi
    case iconst n =>
      simp only [okI, Bool.and_eq_true, decide_eq_true_eq] at hi
      obtain ⟨h0, h1, h2⟩ := hi
      obtain rfl : len = 3 := Nat.eq_of_beq_eq_true hl
      dsimp only [stp] at hst
      have hS := hR.2.1
      refine lv_ldcw (v := i32 n) hx hbc hown (hts _ (ckk_word h0) rfl) hd ?_
      exact cons_eq (by exact rfl) (KK.same hst hR hF hc ht (ok_c (show R32 n from ⟨h1, h2⟩) hS))
  case ldc2_w i =>
    cases ai <;> try cases hi
    case sipush n =>
      simp only [okI, Bool.and_eq_true, decide_eq_true_eq] at hi
      obtain ⟨h0, h1, h2⟩ := hi
      obtain rfl : len = 3 := Nat.eq_of_beq_eq_true hl
      dsimp only [stp] at hst
      have hS := hR.2.1
      refine lv_ldc2 (v := i64 n) hx hbc hown (hts _ (ckl_word h0) rfl) hd ?_
      exact cons_eq (by exact rfl) (KK.same hst hR hF hc ht (ok_c (show R64 n from ⟨h1, h2⟩) hS))
  case lconst n =>
    obtain rfl : ai = .sipush (n.val : Int) := of_decide_eq_true hi
    obtain rfl : len = 1 := Nat.eq_of_beq_eq_true hl
    dsimp only [stp] at hst
    have hS := hR.2.1
    have hn := n.isLt
    refine lv_lconst (v := i64 (n.val : Int)) hx hbc hd (by match n with | 0 => rfl | 1 => rfl) ?_
    exact cons_eq (by exact rfl) (KK.same hst hR hF hc ht (ok_c (show R64 _ from ⟨by omega, by omega⟩) hS))
  case iload_n k =>
    obtain rfl : ai = .iload k.val := of_decide_eq_true hi
    obtain rfl : len = 1 := Nat.eq_of_beq_eq_true hl
    dsimp only [stp] at hst
    have hS := hR.2.1
    obtain ⟨a, hk, hst⟩ := ldI_inv hst
    obtain ⟨hok, hv⟩ := (hR.1.2.2.2 _ _ hk).resolve_left (fun q => nomatch q)
    refine lv_iload_n hx hbc hd rfl hv ?_
    exact cons_eq (by exact rfl) (KK.same hst hR hF hc ht (ok_c (hok) hS))
  case iload k =>
    obtain rfl : ai = .iload k := of_decide_eq_true hi
    obtain rfl : len = 2 := Nat.eq_of_beq_eq_true hl
    dsimp only [stp] at hst
    have hS := hR.2.1
    obtain ⟨a, hk, hst⟩ := ldI_inv hst
    obtain ⟨hok, hv⟩ := (hR.1.2.2.2 _ _ hk).resolve_left (fun q => nomatch q)
    refine lv_iload hx hbc hd hv ?_
    exact cons_eq (by exact rfl) (KK.same hst hR hF hc ht (ok_c (hok) hS))
  case lload_n k =>
    obtain rfl : ai = .lload k.val := of_decide_eq_true hi
    obtain rfl : len = 1 := Nat.eq_of_beq_eq_true hl
    dsimp only [stp] at hst
    have hS := hR.2.1
    obtain ⟨a, hk, hst⟩ := ldJ_inv hst
    obtain ⟨hok, hv⟩ := (hR.1.2.2.2 _ _ hk).resolve_left (fun q => nomatch q)
    refine lv_lload_n hx hbc hd rfl hv ?_
    exact cons_eq (by exact rfl) (KK.same hst hR hF hc ht (ok_c (hok) hS))
  case lload k =>
    obtain rfl : ai = .lload k := of_decide_eq_true hi
    obtain rfl : len = 2 := Nat.eq_of_beq_eq_true hl
    dsimp only [stp] at hst
    have hS := hR.2.1
    obtain ⟨a, hk, hst⟩ := ldJ_inv hst
    obtain ⟨hok, hv⟩ := (hR.1.2.2.2 _ _ hk).resolve_left (fun q => nomatch q)
    refine lv_lload hx hbc hd hv ?_
    exact cons_eq (by exact rfl) (KK.same hst hR hF hc ht (ok_c (hok) hS))
  case aload_n k =>
    obtain rfl : ai = .aload k.val := of_decide_eq_true hi
    obtain rfl : len = 1 := Nat.eq_of_beq_eq_true hl
    dsimp only [stp] at hst
    have hS := hR.2.1
    obtain ⟨a, hk, hst⟩ := ldR_inv hst
    obtain ⟨hok, hv⟩ := (hR.1.2.2.2 _ _ hk).resolve_left (fun q => nomatch q)
    by_cases ha : a = 0
    · subst ha
      refine lv_aload_nN hx hbc hd rfl hv ?_
      exact cons_eq (by exact rfl) (KK.same hst hR hF hc ht (ok_c (hok) hS))
    · rw [show rv D (vr a) = .ref (adr D a) from if_neg ha] at hv
      refine lv_aload_n hx hbc hd rfl hv ?_
      exact cons_eq (by exact (if_neg ha : rv D (vr a) = .ref (adr D a))) (KK.same hst hR hF hc ht (ok_c (hok) hS))
  case aload k =>
    obtain rfl : ai = .aload k := of_decide_eq_true hi
    obtain rfl : len = 2 := Nat.eq_of_beq_eq_true hl
    dsimp only [stp] at hst
    have hS := hR.2.1
    obtain ⟨a, hk, hst⟩ := ldR_inv hst
    obtain ⟨hok, hv⟩ := (hR.1.2.2.2 _ _ hk).resolve_left (fun q => nomatch q)
    by_cases ha : a = 0
    · subst ha
      refine lv_aloadN hx hbc hd hv ?_
      exact cons_eq (by exact rfl) (KK.same hst hR hF hc ht (ok_c (hok) hS))
    · rw [show rv D (vr a) = .ref (adr D a) from if_neg ha] at hv
      refine lv_aload hx hbc hd hv ?_
      exact cons_eq (by exact (if_neg ha : rv D (vr a) = .ref (adr D a))) (KK.same hst hR hF hc ht (ok_c (hok) hS))
  case istore_n k =>
    obtain rfl : ai = .istore k.val := of_decide_eq_true hi
    obtain rfl : len = 1 := Nat.eq_of_beq_eq_true hl
    dsimp only [stp] at hst
    have hS := hR.2.1
    obtain ⟨a, r1, hrr, hst1⟩ := sI_inv hst
    clear hst
    have hst := hst1
    clear hst1
    subst hrr
    obtain ⟨ha, hS1⟩ := List.forall_mem_cons.mp hS
    clear hS
    have hS := hS1
    clear hS1
    obtain ⟨hk, hst⟩ := hst
    rw [hR.1.2.1] at hk
    exact lv_istore_n hx hbc hd rfl (asc_has hR.1) hk rfl fun ls2 hl2 => hst.2 H ls2 locs cells slots ⟨hR.1.sto1 (v := vi a) ha hl2, hS, hR.2.2⟩ hF hc ht
  case lstore_n k =>
    obtain rfl : ai = .lstore k.val := of_decide_eq_true hi
    obtain rfl : len = 1 := Nat.eq_of_beq_eq_true hl
    dsimp only [stp] at hst
    have hS := hR.2.1
    obtain ⟨a, r1, hrr, hst1⟩ := sL_inv hst
    clear hst
    have hst := hst1
    clear hst1
    subst hrr
    obtain ⟨ha, hS1⟩ := List.forall_mem_cons.mp hS
    clear hS
    have hS := hS1
    clear hS1
    obtain ⟨hk, hst⟩ := hst
    have hk2 := hk
    rw [hR.1.2.1] at hk
    exact lv_lstore_n hx hbc hd rfl (asc_has hR.1) hk rfl fun ls2 hl2 => hst.2 H ls2 locs cells slots ⟨hR.1.sto2 (v := vl a) ha hk2 hl2, hS, hR.2.2⟩ hF hc ht
  case astore_n k =>
    obtain rfl : ai = .astore k.val := of_decide_eq_true hi
    obtain rfl : len = 1 := Nat.eq_of_beq_eq_true hl
    dsimp only [stp] at hst
    have hS := hR.2.1
    obtain ⟨a, r1, hrr, hst1⟩ := sR_inv hst
    clear hst
    have hst := hst1
    clear hst1
    subst hrr
    obtain ⟨ha, hS1⟩ := List.forall_mem_cons.mp hS
    clear hS
    have hS := hS1
    clear hS1
    obtain ⟨hk, hst⟩ := hst
    rw [hR.1.2.1] at hk
    by_cases hz : a = 0
    · subst hz
      exact lv_astore_nN hx hbc hd rfl (asc_has hR.1) hk rfl fun ls2 hl2 => hst.2 H ls2 locs cells slots ⟨hR.1.sto1 (v := vr 0) ha hl2, hS, hR.2.2⟩ hF hc ht
    · have he : rv D (vr a) = .ref (adr D a) := if_neg hz
      rw [List.map_cons, he]
      exact lv_astore_n hx hbc hd rfl (asc_has hR.1) hk rfl fun ls2 hl2 => hst.2 H ls2 locs cells slots ⟨hR.1.sto1 (v := vr a) ha (by rw [he]; exact hl2), hS, hR.2.2⟩ hF hc ht
  case istore k =>
    obtain rfl : ai = .istore k := of_decide_eq_true hi
    obtain rfl : len = 2 := Nat.eq_of_beq_eq_true hl
    dsimp only [stp] at hst
    have hS := hR.2.1
    obtain ⟨a, r1, hrr, hst1⟩ := sI_inv hst
    clear hst
    have hst := hst1
    clear hst1
    subst hrr
    obtain ⟨ha, hS1⟩ := List.forall_mem_cons.mp hS
    clear hS
    have hS := hS1
    clear hS1
    obtain ⟨hk, hst⟩ := hst
    rw [hR.1.2.1] at hk
    exact lv_istore hx hbc hd (asc_has hR.1) hk rfl fun ls2 hl2 => hst.2 H ls2 locs cells slots ⟨hR.1.sto1 (v := vi a) ha hl2, hS, hR.2.2⟩ hF hc ht
  case lstore k =>
    obtain rfl : ai = .lstore k := of_decide_eq_true hi
    obtain rfl : len = 2 := Nat.eq_of_beq_eq_true hl
    dsimp only [stp] at hst
    have hS := hR.2.1
    obtain ⟨a, r1, hrr, hst1⟩ := sL_inv hst
    clear hst
    have hst := hst1
    clear hst1
    subst hrr
    obtain ⟨ha, hS1⟩ := List.forall_mem_cons.mp hS
    clear hS
    have hS := hS1
    clear hS1
    obtain ⟨hk, hst⟩ := hst
    have hk2 := hk
    rw [hR.1.2.1] at hk
    exact lv_lstore hx hbc hd (asc_has hR.1) hk rfl fun ls2 hl2 => hst.2 H ls2 locs cells slots ⟨hR.1.sto2 (v := vl a) ha hk2 hl2, hS, hR.2.2⟩ hF hc ht
  case astore k =>
    obtain rfl : ai = .astore k := of_decide_eq_true hi
    obtain rfl : len = 2 := Nat.eq_of_beq_eq_true hl
    dsimp only [stp] at hst
    have hS := hR.2.1
    obtain ⟨a, r1, hrr, hst1⟩ := sR_inv hst
    clear hst
    have hst := hst1
    clear hst1
    subst hrr
    obtain ⟨ha, hS1⟩ := List.forall_mem_cons.mp hS
    clear hS
    have hS := hS1
    clear hS1
    obtain ⟨hk, hst⟩ := hst
    rw [hR.1.2.1] at hk
    by_cases hz : a = 0
    · subst hz
      exact lv_astoreN hx hbc hd (asc_has hR.1) hk rfl fun ls2 hl2 => hst.2 H ls2 locs cells slots ⟨hR.1.sto1 (v := vr 0) ha hl2, hS, hR.2.2⟩ hF hc ht
    · have he : rv D (vr a) = .ref (adr D a) := if_neg hz
      rw [List.map_cons, he]
      exact lv_astore hx hbc hd (asc_has hR.1) hk rfl fun ls2 hl2 => hst.2 H ls2 locs cells slots ⟨hR.1.sto1 (v := vr a) ha (by rw [he]; exact hl2), hS, hR.2.2⟩ hF hc ht
  case iinc k n =>
    obtain rfl : ai = .iinc k n := of_decide_eq_true hi
    obtain rfl : len = 3 := Nat.eq_of_beq_eq_true hl
    dsimp only [stp] at hst
    have hS := hR.2.1
    obtain ⟨a, hk, hst⟩ := ldI_inv hst
    have hkl : k < mxl M := by rw [← hR.1.2.1]; exact (List.getElem?_eq_some_iff.mp hk).1
    obtain ⟨j, hj⟩ := List.getElem?_of_mem (asc_mem (D := D) hk (fun q => nomatch q))
    exact lv_iinc (v := i32 (w32 (a + n))) hx hbc hd (asc_has hR.1) hj (i32_add a n).symm hkl rfl fun ls2 hl2 => hst.2 H ls2 locs cells slots ⟨hR.1.sto1 (v := vi (w32 (a + n))) (w32_R _) hl2, hS, hR.2.2⟩ hF hc ht
  case if_icmp cc t =>
    simp only [okI, Bool.and_eq_true, decide_eq_true_eq] at hi
    obtain ⟨rfl, hz⟩ := hi
    obtain rfl : len = 3 := Nat.eq_of_beq_eq_true hl
    dsimp only [stp] at hst
    have hS := hR.2.1
    obtain ⟨b, r1, hrr, hst1⟩ := sI_inv hst
    clear hst
    have hst := hst1
    clear hst1
    subst hrr
    obtain ⟨hb, hS1⟩ := List.forall_mem_cons.mp hS
    clear hS
    have hS := hS1
    clear hS1
    obtain ⟨a, r1, hrr, hst1⟩ := sI_inv hst
    clear hst
    have hst := hst1
    clear hst1
    subst hrr
    obtain ⟨ha, hS1⟩ := List.forall_mem_cons.mp hS
    clear hS
    have hS := hS1
    clear hS1
    have htg : (pc : Int) + t = (((pc : Int) + t).toNat : Int) := (Int.toNat_of_nonneg hz).symm
    cases cc
    case eq => exact lv_icmp_eq hx hbc hd htg (fun q => KK.same (hst.1 ((i32_eq ha hb).mp q)) hR hF hc ht hS) (fun q => KK.same (hst.2 (fun z => q ((i32_eq ha hb).mpr z))) hR hF hc ht hS)
    case ne => exact lv_icmp_ne hx hbc hd htg (fun q => KK.same (hst.1 (fun z => q ((i32_eq ha hb).mpr z))) hR hF hc ht hS) (fun q => KK.same (hst.2 (fun z => z ((i32_eq ha hb).mp q))) hR hF hc ht hS)
    case lt => exact lv_icmp_lt hx hbc hd htg (fun q => KK.same (hst.1 ((i32_lt ha hb).mp q)) hR hF hc ht hS) (fun q => KK.same (hst.2 (fun z => q ((i32_lt ha hb).mpr z))) hR hF hc ht hS)
    case ge => exact lv_icmp_ge hx hbc hd htg (fun q => KK.same (hst.1 ((i32_le hb ha).mp q)) hR hF hc ht hS) (fun q => KK.same (hst.2 (fun z => q ((i32_le hb ha).mpr z))) hR hF hc ht hS)
    case gt => exact lv_icmp_gt hx hbc hd htg (fun q => KK.same (hst.1 ((i32_lt hb ha).mp q)) hR hF hc ht hS) (fun q => KK.same (hst.2 (fun z => q ((i32_lt hb ha).mpr z))) hR hF hc ht hS)
    case le => exact lv_icmp_le hx hbc hd htg (fun q => KK.same (hst.1 ((i32_le ha hb).mp q)) hR hF hc ht hS) (fun q => KK.same (hst.2 (fun z => q ((i32_le ha hb).mpr z))) hR hF hc ht hS)
  case ifCond cc t =>
    simp only [okI, Bool.and_eq_true, decide_eq_true_eq] at hi
    obtain ⟨rfl, hz⟩ := hi
    obtain rfl : len = 3 := Nat.eq_of_beq_eq_true hl
    dsimp only [stp] at hst
    have hS := hR.2.1
    obtain ⟨a, r1, hrr, hst1⟩ := sI_inv hst
    clear hst
    have hst := hst1
    clear hst1
    subst hrr
    obtain ⟨ha, hS1⟩ := List.forall_mem_cons.mp hS
    clear hS
    have hS := hS1
    clear hS1
    have htg : (pc : Int) + t = (((pc : Int) + t).toNat : Int) := (Int.toNat_of_nonneg hz).symm
    cases cc
    case eq => exact lv_if_eq hx hbc hd htg (fun q => KK.same (hst.1 ((i32_eq ha R32_0).mp q)) hR hF hc ht hS) (fun q => KK.same (hst.2 (fun z => q ((i32_eq ha R32_0).mpr z))) hR hF hc ht hS)
    case ne => exact lv_if_ne hx hbc hd htg (fun q => KK.same (hst.1 (fun z => q ((i32_eq ha R32_0).mpr z))) hR hF hc ht hS) (fun q => KK.same (hst.2 (fun z => z ((i32_eq ha R32_0).mp q))) hR hF hc ht hS)
    case lt => exact lv_if_lt hx hbc hd htg (fun q => KK.same (hst.1 ((i32_lt ha R32_0).mp q)) hR hF hc ht hS) (fun q => KK.same (hst.2 (fun z => q ((i32_lt ha R32_0).mpr z))) hR hF hc ht hS)
    case ge => exact lv_if_ge hx hbc hd htg (fun q => KK.same (hst.1 ((i32_le R32_0 ha).mp q)) hR hF hc ht hS) (fun q => KK.same (hst.2 (fun z => q ((i32_le R32_0 ha).mpr z))) hR hF hc ht hS)
    case gt => exact lv_if_gt hx hbc hd htg (fun q => KK.same (hst.1 ((i32_lt R32_0 ha).mp q)) hR hF hc ht hS) (fun q => KK.same (hst.2 (fun z => q ((i32_lt R32_0 ha).mpr z))) hR hF hc ht hS)
    case le => exact lv_if_le hx hbc hd htg (fun q => KK.same (hst.1 ((i32_le ha R32_0).mp q)) hR hF hc ht hS) (fun q => KK.same (hst.2 (fun z => q ((i32_le ha R32_0).mpr z))) hR hF hc ht hS)
  case goto t =>
    simp only [okI, Bool.and_eq_true, decide_eq_true_eq] at hi
    obtain ⟨rfl, hz⟩ := hi
    obtain rfl : len = 3 := Nat.eq_of_beq_eq_true hl
    dsimp only [stp] at hst
    have hS := hR.2.1
    exact lv_goto hx hbc hd (Int.toNat_of_nonneg hz).symm (KK.same hst hR hF hc ht hS)
  case tableswitch d lo hh os =>
    cases ai <;> try cases hi
    case tableswitch d2 lo2 hh2 os2 =>
      simp only [okI, Bool.and_eq_true, decide_eq_true_eq] at hi
      obtain ⟨rfl, hz, rfl, rfl, ho, hn, hlen⟩ := hi
      dsimp only [stp] at hst
      have hS := hR.2.1
      obtain ⟨a, r1, hrr, hst1⟩ := sI_inv hst
      clear hst
      have hst := hst1
      clear hst1
      subst hrr
      obtain ⟨ha, hS1⟩ := List.forall_mem_cons.mp hS
      clear hS
      have hS := hS1
      clear hS1
      by_cases hq : a < lo2 ∨ hh2 < a
      · exact lv_tableOut hx hbc hd (by rw [i32_tI ha]; exact hq) (Int.toNat_of_nonneg hz).symm (KK.same (hst.1 hq) hR hF hc ht hS)
      · have hst := hst.2 hq
        have hj : (a - lo2).toNat < os.toList.length := by omega
        have e1 : os.toList[(a - lo2).toNat]? = some (os.toList[(a - lo2).toNat]) := List.getElem?_eq_getElem hj
        generalize os.toList[(a - lo2).toNat] = off at e1
        have e2 : os2.toList.getD (a - lo2).toNat (↑pc + d) = (pc : Int) + off := by
          rw [ho, List.getD_eq_getElem?_getD, List.getElem?_map, e1]
          rfl
        have e3 : 0 ≤ (pc : Int) + off := by
          have h3 : (pc : Int) + off ∈ os2.toList := by rw [ho]; exact List.mem_map.mpr ⟨off, List.mem_of_getElem? e1, rfl⟩
          exact of_decide_eq_true (List.all_eq_true.mp hn _ h3)
        rw [e2] at hst
        exact lv_tableIn hx hbc hd (by rw [i32_tI ha]; omega) (by rw [i32_tI ha]; omega) (by rw [i32_tI ha, ← Array.getElem?_toList]; exact e1) (Int.toNat_of_nonneg e3).symm (KK.same hst hR hF hc ht hS)
  case lookupswitch d ps =>
    cases ai <;> try cases hi
    case lookupswitch d2 ps2 =>
      simp only [okI, Bool.and_eq_true, decide_eq_true_eq] at hi
      obtain ⟨rfl, hz, ho, hn, hsrt⟩ := hi
      dsimp only [stp] at hst
      have hS := hR.2.1
      obtain ⟨a, r1, hrr, hst1⟩ := sI_inv hst
      clear hst
      have hst := hst1
      clear hst1
      subst hrr
      obtain ⟨ha, hS1⟩ := List.forall_mem_cons.mp hS
      clear hS
      have hS := hS1
      clear hS1
      have e1 := lsw_off pc d a ps.toList ps2.toList ho
      have e2 := lsw_nn ps2.toList (pc + d) a hz hn
      rw [e1] at e2 hst
      exact lv_lookup hx hbc hd hsrt (by rw [i32_tI ha]) (Int.toNat_of_nonneg e2).symm (KK.same hst hR hF hc ht hS)
  case getfield i =>
    obtain rfl : len = 3 := Nat.eq_of_beq_eq_true hl
    cases ai <;> try cases hi
    case getfield k =>
      simp only [okI, Bool.and_eq_true] at hi
      obtain ⟨hfl, hbk⟩ := hi
      obtain ⟨hk0, hci, hj⟩ := fbk_get hbk
      dsimp only [stp] at hst
      have hS := hR.2.1
      obtain ⟨a, r1, hrr, hst1⟩ := sR_inv hst
      clear hst
      have hst := hst1
      clear hst1
      subst hrr
      obtain ⟨ha, hS1⟩ := List.forall_mem_cons.mp hS
      clear hS
      have hS := hS1
      clear hS1
      have hob := obj_at hR.2.2 hci hst.1
      have hfr := hob.2.2.2 _ hj
      unfold fR at hfr
      rw [hk0] at hfr
      exact sn_getf X hR (v := vi (h a (k % 64 : Nat))) hci hj hfl hst.1 hd (by unfold fV; rw [hk0]; rfl) (KK.same hst.2 hR hF hc ht (ok_c (hfr) hS))
    case instanceof k =>
      simp only [okI, Bool.and_eq_true] at hi
      obtain ⟨hfl, hbk⟩ := hi
      obtain ⟨hk0, hci, hj⟩ := fbk_get hbk
      dsimp only [stp] at hst
      have hS := hR.2.1
      obtain ⟨a, r1, hrr, hst1⟩ := sR_inv hst
      clear hst
      have hst := hst1
      clear hst1
      subst hrr
      obtain ⟨ha, hS1⟩ := List.forall_mem_cons.mp hS
      clear hS
      have hS := hS1
      clear hS1
      have hob := obj_at hR.2.2 hci hst.1
      have hfr := hob.2.2.2 _ hj
      unfold fR at hfr
      rw [hk0] at hfr
      exact sn_getf X hR (v := vl (h a (k % 64 : Nat))) hci hj hfl hst.1 hd (by unfold fV; rw [hk0]; rfl) (KK.same hst.2 hR hF hc ht (ok_c (hfr) hS))
    case checkcast k =>
      simp only [okI, Bool.and_eq_true] at hi
      obtain ⟨hfl, hbk⟩ := hi
      obtain ⟨hk0, hci, hj⟩ := fbk_get hbk
      dsimp only [stp] at hst
      have hS := hR.2.1
      obtain ⟨a, r1, hrr, hst1⟩ := sR_inv hst
      clear hst
      have hst := hst1
      clear hst1
      subst hrr
      obtain ⟨ha, hS1⟩ := List.forall_mem_cons.mp hS
      clear hS
      have hS := hS1
      clear hS1
      have hob := obj_at hR.2.2 hci hst.1
      have hfr := hob.2.2.2 _ hj
      unfold fR at hfr
      rw [hk0] at hfr
      exact sn_getf X hR (v := vr (h a (k % 64 : Nat)).toNat) hci hj hfl hst.1 hd (by unfold fV; rw [hk0]; rfl) (KK.same hst.2 hR hF hc ht (ok_c (show (h a (k % 64 : Nat)).toNat < sh.length from (by have h1 := hfr.1; have h2 := hfr.2; omega)) hS))
    case ret k =>
      simp only [okI, Bool.and_eq_true] at hi
      obtain ⟨hfl, hbk⟩ := hi
      obtain ⟨hk0, hci, hj⟩ := fbk_get hbk
      dsimp only [stp] at hst
      have hS := hR.2.1
      obtain ⟨a, r1, hrr, hst1⟩ := sR_inv hst
      clear hst
      have hst := hst1
      clear hst1
      subst hrr
      obtain ⟨ha, hS1⟩ := List.forall_mem_cons.mp hS
      clear hS
      have hS := hS1
      clear hS1
      have hob := obj_at hR.2.2 hci hst.1
      have hfr := hob.2.2.2 _ hj
      unfold fR at hfr
      rw [hk0] at hfr
      exact sn_getf X hR (v := vr (h a (k % 64 : Nat)).toNat) hci hj hfl hst.1 hd (by unfold fV; rw [hk0]; rfl) (KK.same hst.2 hR hF hc ht (ok_c (show (h a (k % 64 : Nat)).toNat < sh.length from (by have h1 := hfr.1; have h2 := hfr.2; omega)) hS))
  case putfield i =>
    obtain rfl : len = 3 := Nat.eq_of_beq_eq_true hl
    cases ai <;> try cases hi
    case putfield k =>
      simp only [okI, Bool.and_eq_true] at hi
      obtain ⟨hfl, hbk⟩ := hi
      obtain ⟨hk0, hci, hj⟩ := fbk_get hbk
      dsimp only [stp] at hst
      have hS := hR.2.1
      obtain ⟨v, r1, hrr, hst1⟩ := sI_inv hst
      clear hst
      have hst := hst1
      clear hst1
      subst hrr
      obtain ⟨hv, hS1⟩ := List.forall_mem_cons.mp hS
      clear hS
      have hS := hS1
      clear hS1
      obtain ⟨a, r1, hrr, hst1⟩ := sR_inv hst
      clear hst
      have hst := hst1
      clear hst1
      subst hrr
      obtain ⟨ha, hS1⟩ := List.forall_mem_cons.mp hS
      clear hS
      have hS := hS1
      clear hS1
      have hfk := fkb_get hci hj
      unfold fkb at hfk
      rw [hk0] at hfk
      simp only [Bool.and_eq_true, decide_eq_true_eq, Bool.not_eq_true'] at hfk
      exact sn_putf X hR hF (v := vi v) (x := v) hci hj hfl hst.1 hd (by unfold fV; rw [hk0, upd2_s]; rfl) (fR_0 hk0 hv) (by rw [hfk.1]; rfl) (by rw [hfk.1]; rfl) (Or.inl hfk.2) hS (fun H1 locs1 hR1 hF1 => hst.2.2 H1 ls locs1 cells slots hR1 hF1 hc ht)
    case putstatic k =>
      simp only [okI, Bool.and_eq_true] at hi
      obtain ⟨hfl, hbk⟩ := hi
      obtain ⟨hk0, hci, hj⟩ := fbk_get hbk
      dsimp only [stp] at hst
      have hS := hR.2.1
      obtain ⟨v, r1, hrr, hst1⟩ := sL_inv hst
      clear hst
      have hst := hst1
      clear hst1
      subst hrr
      obtain ⟨hv, hS1⟩ := List.forall_mem_cons.mp hS
      clear hS
      have hS := hS1
      clear hS1
      obtain ⟨a, r1, hrr, hst1⟩ := sR_inv hst
      clear hst
      have hst := hst1
      clear hst1
      subst hrr
      obtain ⟨ha, hS1⟩ := List.forall_mem_cons.mp hS
      clear hS
      have hS := hS1
      clear hS1
      have hfk := fkb_get hci hj
      unfold fkb at hfk
      rw [hk0] at hfk
      simp only [Bool.and_eq_true, decide_eq_true_eq, Bool.not_eq_true'] at hfk
      exact sn_putf X hR hF (v := vl v) (x := v) hci hj hfl hst.1 hd (by unfold fV; rw [hk0, upd2_s]; rfl) (fR_1 hk0 hv) (by rw [hfk.1]; rfl) (by rw [hfk.1]; rfl) (Or.inl hfk.2) hS (fun H1 locs1 hR1 hF1 => hst.2.2 H1 ls locs1 cells slots hR1 hF1 hc ht)
    case invokedynamic k =>
      simp only [okI, Bool.and_eq_true] at hi
      obtain ⟨hfl, hbk⟩ := hi
      obtain ⟨hk0, hci, hj⟩ := fbk_get hbk
      dsimp only [stp] at hst
      have hS := hR.2.1
      obtain ⟨v, r1, hrr, hst1⟩ := sR_inv hst
      clear hst
      have hst := hst1
      clear hst1
      subst hrr
      obtain ⟨hv, hS1⟩ := List.forall_mem_cons.mp hS
      clear hS
      have hS := hS1
      clear hS1
      obtain ⟨a, r1, hrr, hst1⟩ := sR_inv hst
      clear hst
      have hst := hst1
      clear hst1
      subst hrr
      obtain ⟨ha, hS1⟩ := List.forall_mem_cons.mp hS
      clear hS
      have hS := hS1
      clear hS1
      have hfk := fkb_get hci hj
      unfold fkb at hfk
      rw [hk0] at hfk
      simp only [Bool.and_eq_true, decide_eq_true_eq, Bool.not_eq_true'] at hfk
      exact sn_putf X hR hF (v := vr v) (x := (v : Int)) hci hj hfl hst.1 hd (by unfold fV; rw [hk0, upd2_s]; exact congrArg (fun z => rv D (vr z)) (Int.toNat_natCast v)) (fR_2 (Or.inr hk0) ⟨by omega, by have hv : v < sh.length := hv; omega⟩) ((fits_ref hfk.1 v).1) ((fits_ref hfk.1 v).2) (Or.inl hfk.2) hS (fun H1 locs1 hR1 hF1 => hst.2.2 H1 ls locs1 cells slots hR1 hF1 hc ht)
    case ldc k =>
      simp only [okI, Bool.and_eq_true, Bool.or_eq_true] at hi
      obtain ⟨hfl, hini, how, hbk⟩ := hi
      dsimp only [stp] at hst
      have hS := hR.2.1
      obtain ⟨v, r1, hrr, hst1⟩ := sR_inv hst
      clear hst
      have hst := hst1
      clear hst1
      subst hrr
      obtain ⟨hv, hS1⟩ := List.forall_mem_cons.mp hS
      clear hS
      have hS := hS1
      clear hS1
      obtain ⟨a, r1, hrr, hst1⟩ := sR_inv hst
      clear hst
      have hst := hst1
      clear hst1
      subst hrr
      obtain ⟨ha, hS1⟩ := List.forall_mem_cons.mp hS
      clear hS
      have hS := hS1
      clear hS1
      have how := Nat.eq_of_beq_eq_true how
      have hcm : (fkd (64 * (k / 64) + k % 64) = 2 ∨ fkd (64 * (k / 64) + k % 64) = 3) ∧ k / 64 < 12 ∧ k % 64 < nF (k / 64) := by
        rcases hbk with q | q
        · exact ⟨Or.inl (fbk_get q).1, (fbk_get q).2⟩
        · exact ⟨Or.inr (fbk_get q).1, (fbk_get q).2⟩
      obtain ⟨hk0, hci, hj⟩ := hcm
      have hfk := fkb_get hci hj
      have hrf : (tT (k / 64) (k % 64)).isReference = true := by
        unfold fkb at hfk
        rcases hk0 with q | q <;> rw [q] at hfk <;> simp only [Bool.and_eq_true] at hfk <;> exact hfk.1
      exact sn_putf X hR hF (v := vr v) (x := (v : Int)) hci hj hfl hst.1 hd (by unfold fV; rw [upd2_s]; rcases hk0 with q | q <;> rw [q] <;> exact congrArg (fun z => rv D (vr z)) (Int.toNat_natCast v)) (fR_2 hk0 ⟨by omega, by have hv : v < sh.length := hv; omega⟩) (fits_ref hrf v).1 (fits_ref hrf v).2 (Or.inr ⟨hini, how⟩) hS (fun H1 locs1 hR1 hF1 => hst.2.2 H1 ls locs1 cells slots hR1 hF1 hc ht)
  case getstatic i =>
    obtain rfl : len = 3 := Nat.eq_of_beq_eq_true hl
    cases ai <;> try cases hi
    case getstatic j =>
      simp only [okI, Bool.and_eq_true] at hi
      obtain ⟨hfl, h1, h2⟩ := hi
      have h1 := Nat.ble_eq.mp h1
      have h2 := Nat.ble_eq.mp h2
      dsimp only [stp] at hst
      have h6 := hR.2.2.1.1
      exact sn_gets X hR hF ⟨h1, h2⟩ hfl hd (KK.same hst hR hF hc ht (ok_c (show j < sh.length by omega) hR.2.1))
  case iaload =>
    obtain rfl : ai = .iaload := of_decide_eq_true hi
    obtain rfl : len = 1 := Nat.eq_of_beq_eq_true hl
    dsimp only [stp] at hst
    have hS := hR.2.1
    obtain ⟨i1, r1, hrr, hst1⟩ := sI_inv hst
    clear hst
    have hst := hst1
    clear hst1
    subst hrr
    obtain ⟨hi1, hS1⟩ := List.forall_mem_cons.mp hS
    clear hS
    have hS := hS1
    clear hS1
    obtain ⟨a, r1, hrr, hst1⟩ := sR_inv hst
    clear hst
    have hst := hst1
    clear hst1
    subst hrr
    obtain ⟨ha, hS1⟩ := List.forall_mem_cons.mp hS
    clear hS
    have hS := hS1
    clear hS1
    exact sn_iald X hR hF hi1 hst.1 hd (fun hok => KK.same hst.2 hR hF hc ht (ok_c hok hS))
  case laload =>
    obtain rfl : ai = .laload := of_decide_eq_true hi
    obtain rfl : len = 1 := Nat.eq_of_beq_eq_true hl
    dsimp only [stp] at hst
    have hS := hR.2.1
    obtain ⟨i1, r1, hrr, hst1⟩ := sI_inv hst
    clear hst
    have hst := hst1
    clear hst1
    subst hrr
    obtain ⟨hi1, hS1⟩ := List.forall_mem_cons.mp hS
    clear hS
    have hS := hS1
    clear hS1
    obtain ⟨a, r1, hrr, hst1⟩ := sR_inv hst
    clear hst
    have hst := hst1
    clear hst1
    subst hrr
    obtain ⟨ha, hS1⟩ := List.forall_mem_cons.mp hS
    clear hS
    have hS := hS1
    clear hS1
    exact sn_lald X hR hi1 hst.1 hd (fun hok => KK.same hst.2 hR hF hc ht (ok_c hok hS))
  case baload =>
    obtain rfl : ai = .baload := of_decide_eq_true hi
    obtain rfl : len = 1 := Nat.eq_of_beq_eq_true hl
    dsimp only [stp] at hst
    have hS := hR.2.1
    obtain ⟨i1, r1, hrr, hst1⟩ := sI_inv hst
    clear hst
    have hst := hst1
    clear hst1
    subst hrr
    obtain ⟨hi1, hS1⟩ := List.forall_mem_cons.mp hS
    clear hS
    have hS := hS1
    clear hS1
    obtain ⟨a, r1, hrr, hst1⟩ := sR_inv hst
    clear hst
    have hst := hst1
    clear hst1
    subst hrr
    obtain ⟨ha, hS1⟩ := List.forall_mem_cons.mp hS
    clear hS
    have hS := hS1
    clear hS1
    exact sn_zald X hR hi1 hst.1 hd (fun hok => KK.same hst.2 hR hF hc ht (ok_c hok hS))
  case aaload =>
    obtain rfl : ai = .aaload := of_decide_eq_true hi
    obtain rfl : len = 1 := Nat.eq_of_beq_eq_true hl
    dsimp only [stp] at hst
    have hS := hR.2.1
    obtain ⟨i1, r1, hrr, hst1⟩ := sI_inv hst
    clear hst
    have hst := hst1
    clear hst1
    subst hrr
    obtain ⟨hi1, hS1⟩ := List.forall_mem_cons.mp hS
    clear hS
    have hS := hS1
    clear hS1
    obtain ⟨a, r1, hrr, hst1⟩ := sR_inv hst
    clear hst
    have hst := hst1
    clear hst1
    subst hrr
    obtain ⟨ha, hS1⟩ := List.forall_mem_cons.mp hS
    clear hS
    have hS := hS1
    clear hS1
    exact sn_aald X hR hi1 hst.1 hd (fun hok => KK.same hst.2 hR hF hc ht (ok_c hok hS))
  case iastore =>
    obtain rfl : ai = .iastore := of_decide_eq_true hi
    obtain rfl : len = 1 := Nat.eq_of_beq_eq_true hl
    dsimp only [stp] at hst
    have hS := hR.2.1
    obtain ⟨v, r1, hrr, hst1⟩ := sI_inv hst
    clear hst
    have hst := hst1
    clear hst1
    subst hrr
    obtain ⟨hv, hS1⟩ := List.forall_mem_cons.mp hS
    clear hS
    have hS := hS1
    clear hS1
    obtain ⟨i1, r1, hrr, hst1⟩ := sI_inv hst
    clear hst
    have hst := hst1
    clear hst1
    subst hrr
    obtain ⟨hi1, hS1⟩ := List.forall_mem_cons.mp hS
    clear hS
    have hS := hS1
    clear hS1
    obtain ⟨a, r1, hrr, hst1⟩ := sR_inv hst
    clear hst
    have hst := hst1
    clear hst1
    subst hrr
    obtain ⟨ha, hS1⟩ := List.forall_mem_cons.mp hS
    clear hS
    have hS := hS1
    clear hS1
    exact sn_iast X hR hF hi1 hv hS hst.1 hd (fun H1 locs1 hR1 hF1 => hst.2.2 H1 ls locs1 cells slots hR1 hF1 hc ht)
  case lastore =>
    obtain rfl : ai = .lastore := of_decide_eq_true hi
    obtain rfl : len = 1 := Nat.eq_of_beq_eq_true hl
    dsimp only [stp] at hst
    have hS := hR.2.1
    obtain ⟨v, r1, hrr, hst1⟩ := sL_inv hst
    clear hst
    have hst := hst1
    clear hst1
    subst hrr
    obtain ⟨hv, hS1⟩ := List.forall_mem_cons.mp hS
    clear hS
    have hS := hS1
    clear hS1
    obtain ⟨i1, r1, hrr, hst1⟩ := sI_inv hst
    clear hst
    have hst := hst1
    clear hst1
    subst hrr
    obtain ⟨hi1, hS1⟩ := List.forall_mem_cons.mp hS
    clear hS
    have hS := hS1
    clear hS1
    obtain ⟨a, r1, hrr, hst1⟩ := sR_inv hst
    clear hst
    have hst := hst1
    clear hst1
    subst hrr
    obtain ⟨ha, hS1⟩ := List.forall_mem_cons.mp hS
    clear hS
    have hS := hS1
    clear hS1
    exact sn_last X hR hF hi1 hv hS hst.1 hd (fun H1 locs1 hR1 hF1 => hst.2.2 H1 ls locs1 cells slots hR1 hF1 hc ht)
  case bastore =>
    obtain rfl : ai = .bastore := of_decide_eq_true hi
    obtain rfl : len = 1 := Nat.eq_of_beq_eq_true hl
    dsimp only [stp] at hst
    have hS := hR.2.1
    obtain ⟨v, r1, hrr, hst1⟩ := sI_inv hst
    clear hst
    have hst := hst1
    clear hst1
    subst hrr
    obtain ⟨hv, hS1⟩ := List.forall_mem_cons.mp hS
    clear hS
    have hS := hS1
    clear hS1
    obtain ⟨i1, r1, hrr, hst1⟩ := sI_inv hst
    clear hst
    have hst := hst1
    clear hst1
    subst hrr
    obtain ⟨hi1, hS1⟩ := List.forall_mem_cons.mp hS
    clear hS
    have hS := hS1
    clear hS1
    obtain ⟨a, r1, hrr, hst1⟩ := sR_inv hst
    clear hst
    have hst := hst1
    clear hst1
    subst hrr
    obtain ⟨ha, hS1⟩ := List.forall_mem_cons.mp hS
    clear hS
    have hS := hS1
    clear hS1
    exact sn_zast X hR hF hi1 hS hst.1 hd (fun H1 locs1 hR1 hF1 => hst.2.2 H1 ls locs1 cells slots hR1 hF1 hc ht)
  case aastore =>
    obtain rfl : ai = .aastore := of_decide_eq_true hi
    obtain rfl : len = 1 := Nat.eq_of_beq_eq_true hl
    dsimp only [stp] at hst
    have hS := hR.2.1
    obtain ⟨v, r1, hrr, hst1⟩ := sR_inv hst
    clear hst
    have hst := hst1
    clear hst1
    subst hrr
    obtain ⟨hv, hS1⟩ := List.forall_mem_cons.mp hS
    clear hS
    have hS := hS1
    clear hS1
    obtain ⟨i1, r1, hrr, hst1⟩ := sI_inv hst
    clear hst
    have hst := hst1
    clear hst1
    subst hrr
    obtain ⟨hi1, hS1⟩ := List.forall_mem_cons.mp hS
    clear hS
    have hS := hS1
    clear hS1
    obtain ⟨a, r1, hrr, hst1⟩ := sR_inv hst
    clear hst
    have hst := hst1
    clear hst1
    subst hrr
    obtain ⟨ha, hS1⟩ := List.forall_mem_cons.mp hS
    clear hS
    have hS := hS1
    clear hS1
    exact sn_aast X hR hF hi1 hS hst.1 hd (fun H1 locs1 hR1 hF1 => hst.2.2 H1 ls locs1 cells slots hR1 hF1 hc ht)
  case arraylength =>
    obtain rfl : ai = .arraylength := of_decide_eq_true hi
    obtain rfl : len = 1 := Nat.eq_of_beq_eq_true hl
    dsimp only [stp] at hst
    have hS := hR.2.1
    obtain ⟨a, r1, hrr, hst1⟩ := sR_inv hst
    clear hst
    have hst := hst1
    clear hst1
    subst hrr
    obtain ⟨ha, hS1⟩ := List.forall_mem_cons.mp hS
    clear hS
    have hS := hS1
    clear hS1
    exact sn_alen X hR hF hst.1 hd (fun hok => KK.same hst.2 hR hF hc ht (ok_c hok hS))
  case dup =>
    obtain rfl : ai = .dup := of_decide_eq_true hi
    obtain rfl : len = 1 := Nat.eq_of_beq_eq_true hl
    match st, hst, hR with
    | .inl a :: r, hst, hR =>
      refine lv_dup hx hbc hd rfl ?_
      have hS := List.forall_mem_cons.mp hR.2.1
      exact KK.same (st' := vi a :: vi a :: r) hst hR hF hc ht (ok_c hS.1 (ok_c hS.1 hS.2))
    | .inr (.inr (.inl a)) :: r, hst, hR =>
      refine lv_dup hx hbc hd (by show (rv D (vr a)).category = 1; rw [rv_vr_kept]; split <;> rfl) ?_
      have hS := List.forall_mem_cons.mp hR.2.1
      exact KK.same (st' := vr a :: vr a :: r) hst hR hF hc ht (ok_c hS.1 (ok_c hS.1 hS.2))
  case dup2 =>
    obtain rfl : ai = .dup2 := of_decide_eq_true hi
    obtain rfl : len = 1 := Nat.eq_of_beq_eq_true hl
    dsimp only [stp] at hst
    have hS := hR.2.1
    obtain ⟨b, r1, hrr, hst1⟩ := sI_inv hst
    clear hst
    have hst := hst1
    clear hst1
    subst hrr
    obtain ⟨hb, hS1⟩ := List.forall_mem_cons.mp hS
    clear hS
    have hS := hS1
    clear hS1
    obtain ⟨a, r1, hrr, hst1⟩ := sR_inv hst
    clear hst
    have hst := hst1
    clear hst1
    subst hrr
    obtain ⟨ha, hS1⟩ := List.forall_mem_cons.mp hS
    clear hS
    have hS := hS1
    clear hS1
    refine lv_dup2_11 hx hbc hd rfl (by show (rv D (vr a)).category = 1; rw [rv_vr_kept]; split <;> rfl) ?_
    exact KK.same hst hR hF hc ht (ok_c hb (ok_c ha (ok_c hb (ok_c ha hS))))
  case pop =>
    obtain rfl : ai = .pop := of_decide_eq_true hi
    obtain rfl : len = 1 := Nat.eq_of_beq_eq_true hl
    dsimp only [stp] at hst
    have hS := hR.2.1
    obtain ⟨a, r1, hrr, hst1⟩ := sI_inv hst
    clear hst
    have hst := hst1
    clear hst1
    subst hrr
    obtain ⟨ha, hS1⟩ := List.forall_mem_cons.mp hS
    clear hS
    have hS := hS1
    clear hS1
    exact lv_pop hx hbc hd rfl (KK.same hst hR hF hc ht hS)
  case checkcast i =>
    simp only [okI, Bool.and_eq_true, decide_eq_true_eq] at hi
    obtain ⟨rfl, hk⟩ := hi
    obtain rfl : len = 3 := Nat.eq_of_beq_eq_true hl
    dsimp only [stp] at hst
    have hS := hR.2.1
    obtain ⟨a, r1, hrr, hst1⟩ := sR_inv hst
    clear hst
    have hst := hst1
    clear hst1
    subst hrr
    obtain ⟨ha, hS1⟩ := List.forall_mem_cons.mp hS
    clear hS
    have hS := hS1
    clear hS1
    exact sn_cast X hR hk hst.1 hd (KK.same hst.2 hR hF hc ht hR.2.1)
  case new i =>
    obtain rfl : len = 3 := Nat.eq_of_beq_eq_true hl
    cases ai <;> try cases hi
    case new ci =>
      simp only [okI, Bool.and_eq_true] at hi
      exact sn_new X hR hF hc ht (Nat.blt_eq.mp hi.2) hi.1 hd hst
  case newarray t =>
    simp only [okI, Bool.and_eq_true, Bool.or_eq_true, decide_eq_true_eq] at hi
    obtain ⟨rfl, htt⟩ := hi
    obtain rfl : len = 2 := Nat.eq_of_beq_eq_true hl
    dsimp only [stp] at hst
    have hS := hR.2.1
    obtain ⟨n, r, rfl, hst⟩ := sI_inv hst
    rcases htt with rfl | rfl | rfl
    · exact sn_newa (k := 0) X hR hF hc ht (Or.inl ⟨rfl, rfl⟩) hst.1 hd hst.2
    · exact sn_newa (k := 1) X hR hF hc ht (Or.inr (Or.inl ⟨rfl, rfl⟩)) hst.1 hd hst.2
    · exact sn_newa (k := 2) X hR hF hc ht (Or.inr (Or.inr ⟨rfl, rfl⟩)) hst.1 hd hst.2
  case anewarray i =>
    obtain rfl : len = 3 := Nat.eq_of_beq_eq_true hl
    cases ai <;> try cases hi
    case anewarray ci =>
      simp only [okI, Bool.and_eq_true, Bool.or_eq_true] at hi
      obtain ⟨hcl, hq⟩ := hi
      dsimp only [stp] at hst
      obtain ⟨n, r, rfl, hst⟩ := sI_inv hst
      rcases hq with q | q
      · obtain rfl := Nat.eq_of_beq_eq_true q
        exact sn_anew (k := 3) X hR hF hc ht (Or.inl ⟨rfl, rfl⟩) hcl hst.1 hd hst.2
      · obtain rfl := Nat.eq_of_beq_eq_true q
        exact sn_anew (k := 6) X hR hF hc ht (Or.inr ⟨rfl, rfl⟩) hcl hst.1 hd hst.2
  case multianewarray i n =>
    simp only [okI, Bool.and_eq_true, decide_eq_true_eq] at hi
    obtain ⟨rfl, hcl, hn⟩ := hi
    obtain rfl := Nat.eq_of_beq_eq_true hn
    obtain rfl : len = 4 := Nat.eq_of_beq_eq_true hl
    dsimp only [stp] at hst
    have hS := hR.2.1
    obtain ⟨k, r1, hrr, hst1⟩ := sI_inv hst
    clear hst
    have hst := hst1
    clear hst1
    subst hrr
    obtain ⟨hk, hS1⟩ := List.forall_mem_cons.mp hS
    clear hS
    have hS := hS1
    clear hS1
    obtain ⟨n1, r1, hrr, hst1⟩ := sI_inv hst
    clear hst
    have hst := hst1
    clear hst1
    subst hrr
    obtain ⟨hn1, hS1⟩ := List.forall_mem_cons.mp hS
    clear hS
    have hS := hS1
    clear hS1
    obtain ⟨⟨e1, e2⟩, hst⟩ := hst
    subst e1
    subst e2
    exact sn_multi X hR hF hc ht hcl hd hst
  case invokevirtual i =>
    obtain rfl : len = 3 := Nat.eq_of_beq_eq_true hl
    cases ai <;> try cases hi
    case invokestatic k => exact hst.elim
    case swap =>
      simp only [okI] at hi
      dsimp only [stp] at hst
      obtain ⟨a, r, rfl, hst⟩ := sR_inv hst
      exact sn_clone X hR hF hc ht hi hst.1.2.1 hst.1.2.2.1 hst.1.2.2.2 hrm hd hst.2
  case invokestatic i =>
    obtain rfl : len = 3 := Nat.eq_of_beq_eq_true hl
    cases ai <;> try cases hi
    case invokestatic k => exact hst.elim
    case nop =>
      simp only [okI] at hi
      dsimp only [stp] at hst
      have hS := hR.2.1
      obtain ⟨n, r1, hrr, hst1⟩ := sI_inv hst
      clear hst
      have hst := hst1
      clear hst1
      subst hrr
      obtain ⟨hn, hS1⟩ := List.forall_mem_cons.mp hS
      clear hS
      have hS := hS1
      clear hS1
      obtain ⟨j, r1, hrr, hst1⟩ := sI_inv hst
      clear hst
      have hst := hst1
      clear hst1
      subst hrr
      obtain ⟨hj, hS1⟩ := List.forall_mem_cons.mp hS
      clear hS
      have hS := hS1
      clear hS1
      obtain ⟨b, r1, hrr, hst1⟩ := sR_inv hst
      clear hst
      have hst := hst1
      clear hst1
      subst hrr
      obtain ⟨hb, hS1⟩ := List.forall_mem_cons.mp hS
      clear hS
      have hS := hS1
      clear hS1
      obtain ⟨i1, r1, hrr, hst1⟩ := sI_inv hst
      clear hst
      have hst := hst1
      clear hst1
      subst hrr
      obtain ⟨hi1, hS1⟩ := List.forall_mem_cons.mp hS
      clear hS
      have hS := hS1
      clear hS1
      obtain ⟨a, r1, hrr, hst1⟩ := sR_inv hst
      clear hst
      have hst := hst1
      clear hst1
      subst hrr
      obtain ⟨ha, hS1⟩ := List.forall_mem_cons.mp hS
      clear hS
      have hS := hS1
      clear hS1
      exact sn_copy X hR hF hi hst.1 hrm hd (fun H1 locs1 hR1 hF1 => hst.2.2 H1 ls locs1 cells slots hR1 hF1 hc ht)
  case invokespecial i =>
    obtain rfl : len = 3 := Nat.eq_of_beq_eq_true hl
    cases ai <;> try cases hi
    case invokestatic k => exact hst.elim
    case pop2 =>
      simp only [okI] at hi
      dsimp only [stp] at hst
      have hS := hR.2.1
      obtain ⟨a, r1, hrr, hst1⟩ := sR_inv hst
      clear hst
      have hst := hst1
      clear hst1
      subst hrr
      obtain ⟨ha, hS1⟩ := List.forall_mem_cons.mp hS
      clear hS
      have hS := hS1
      clear hS1
      exact sn_init X hR hi hst.1.2 hrm hd hst.1.1 (KK.same hst.2 hR hF hc ht hS)
  case ireturn =>
    obtain rfl : ai = .ireturn := of_decide_eq_true hi
    exact hst.elim
  case lreturn =>
    obtain rfl : ai = .lreturn := of_decide_eq_true hi
    exact hst.elim
  case areturn =>
    obtain rfl : ai = .areturn := of_decide_eq_true hi
    exact hst.elim
  case return_ =>
    obtain rfl : ai = .return_ := of_decide_eq_true hi
    exact hst.elim
  all_goals cases hi
end SD
