-- ===== one instruction of both machines =====
theorem wd_any {o i a b : Nat} {f : Nat → Nat → Bool} {l : List (Nat × Nat × Nat × Nat × Nat)} (h : fnd4 o i f l = true) : ∃ q ∈ l, q.1 = o ∧ q.2.1 = i ∧ f q.2.2.1 q.2.2.2.1 = true := by
  obtain ⟨q, hq, h1⟩ := List.any_eq_true.mp h
  simp only [Bool.and_eq_true] at h1
  exact ⟨q, hq, Nat.eq_of_beq_eq_true h1.1, Nat.eq_of_beq_eq_true h1.2.1, h1.2.2⟩
theorem flk_word {o i c j : Nat} (h : flk o i c j = true) (hc : c < 12) : Cond.fieldLink (cn o) i (cn c) (fT c j).2.1 (fT c j).2.2.1 ∈ lw_tbl := by
  obtain ⟨q, hq, h1, h2, h3⟩ := wd_any (a := 0) (b := 0) h
  simp only [Bool.and_eq_true] at h3
  have h4 := Nat.eq_of_beq_eq_true h3.1
  have h5 := Nat.eq_of_beq_eq_true h3.2
  have h6 := List.mem_of_getElem? (flks_ok q hq)
  unfold wdF at h6
  rw [h1, h2, h4, h5] at h6
  have h7 : Nat.beq c 99 = false := by
    cases e : Nat.beq c 99 with
    | false => rfl
    | true => have := Nat.eq_of_beq_eq_true e; omega
  rw [h7] at h6
  exact h6
theorem stk_word {o i j : Nat} (h : flk o i 99 j = true) : Cond.fieldLink (cn o) i (stC j) (stN j) "[I" ∈ lw_tbl := by
  obtain ⟨q, hq, h1, h2, h3⟩ := wd_any (a := 0) (b := 0) h
  simp only [Bool.and_eq_true] at h3
  have h4 := Nat.eq_of_beq_eq_true h3.1
  have h5 := Nat.eq_of_beq_eq_true h3.2
  have h6 := List.mem_of_getElem? (flks_ok q hq)
  unfold wdF at h6
  rw [h1, h2, h4, h5] at h6
  exact h6
theorem lnk_word {o i kdd k : Nat} (h : lnk o i kdd k = true) : wdL (o, i, kdd, k, 0) ∈ lw_tbl := by
  obtain ⟨q, hq, h1, h2, h3⟩ := wd_any (a := 0) (b := 0) h
  simp only [Bool.and_eq_true] at h3
  have h4 := Nat.eq_of_beq_eq_true h3.1
  have h5 := Nat.eq_of_beq_eq_true h3.2
  have h6 := List.mem_of_getElem? (lks_ok q hq)
  have e : wdL q = wdL (o, i, kdd, k, 0) := by
    unfold wdL
    dsimp only
    rw [h1, h2, h4, h5]
  rwa [e] at h6
theorem lnk_nest {o i k : Nat} (h : lnk o i 3 k = true) : (cn o, i, ym k) ∈ nestL := by
  obtain ⟨q, hq, h1, h2, h3⟩ := wd_any (a := 0) (b := 0) h
  simp only [Bool.and_eq_true] at h3
  have h4 := Nat.eq_of_beq_eq_true h3.1
  have h5 := Nat.eq_of_beq_eq_true h3.2
  refine List.mem_filterMap.mpr ⟨q, hq, ?_⟩
  rw [h4, h1, h2, h5]
  rfl
theorem clk_word {o i c : Nat} (h : clk o i c = true) : Cond.classLink (cn o) i (cnX c) ∈ lw_tbl := by
  obtain ⟨q, hq, h1⟩ := List.any_eq_true.mp h
  simp only [Bool.and_eq_true] at h1
  have h6 := List.mem_of_getElem? (clks_ok q hq)
  unfold wdC at h6
  rw [Nat.eq_of_beq_eq_true h1.1, Nat.eq_of_beq_eq_true h1.2.1, Nat.eq_of_beq_eq_true h1.2.2] at h6
  exact h6
theorem ckk_word {o i : Nat} {n : Int} (h : ckk o i n cks = true) : Cond.constant (cn o) i (i32 n) ∈ lw_tbl := by
  obtain ⟨q, hq, h1⟩ := List.any_eq_true.mp h
  simp only [Bool.and_eq_true] at h1
  have h6 := List.mem_of_getElem? (cks_ok q hq)
  rw [Nat.eq_of_beq_eq_true h1.1, Nat.eq_of_beq_eq_true h1.2.1, of_decide_eq_true h1.2.2] at h6
  exact h6
theorem ckl_word {o i : Nat} {n : Int} (h : ckk o i n lcks = true) : Cond.constantLong (cn o) i (i64 n) ∈ lw_tbl := by
  obtain ⟨q, hq, h1⟩ := List.any_eq_true.mp h
  simp only [Bool.and_eq_true] at h1
  have h6 := List.mem_of_getElem? (lcks_ok q hq)
  rw [Nat.eq_of_beq_eq_true h1.1, Nat.eq_of_beq_eq_true h1.2.1, of_decide_eq_true h1.2.2] at h6
  exact h6
theorem sI_inv {st : List aV} {k : Int → List aV → Prop} (h : sI st k) : ∃ a r, st = vi a :: r ∧ k a r := by
  match st, h with
  | .inl a :: r, h => exact ⟨a, r, rfl, h⟩
theorem sL_inv {st : List aV} {k : Int → List aV → Prop} (h : sL st k) : ∃ a r, st = vl a :: r ∧ k a r := by
  match st, h with
  | .inr (.inl a) :: r, h => exact ⟨a, r, rfl, h⟩
theorem sR_inv {st : List aV} {k : Nat → List aV → Prop} (h : sR st k) : ∃ a r, st = vr a :: r ∧ k a r := by
  match st, h with
  | .inr (.inr (.inl a)) :: r, h => exact ⟨a, r, rfl, h⟩
theorem ldI_inv {L : List aV} {n : Nat} {k : Int → Prop} (h : ldI L n k) : ∃ a, L[n]? = some (vi a) ∧ k a := by
  unfold ldI at h
  split at h
  · rename_i a e; exact ⟨_, e, h⟩
  · exact h.elim
theorem ldJ_inv {L : List aV} {n : Nat} {k : Int → Prop} (h : ldJ L n k) : ∃ a, L[n]? = some (vl a) ∧ k a := by
  unfold ldJ at h
  split at h
  · rename_i a e; exact ⟨_, e, h⟩
  · exact h.elim
theorem ldR_inv {L : List aV} {n : Nat} {k : Nat → Prop} (h : ldR L n k) : ∃ a, L[n]? = some (vr a) ∧ k a := by
  unfold ldR at h
  split at h
  · rename_i a e; exact ⟨_, e, h⟩
  · exact h.elim
def SRel (D : sD) (M : Nat) (sh : SH) (h : HP) (L st : List aV) (H : Heap) (ls : Array Slot) : Prop := LR D (mxl M) sh.length L ls ∧ (∀ v ∈ st, okv sh.length v) ∧ CW D sh h H
/-- what goes on behind an instruction -/
def KK (p : Program) (l : Launch) (e : Env) (R : Room) (s : State) (m : MethodId) (args : Array Value) (below : List Frame) (meth : Method) (c : Code) (Q : State → Prop) (D : sD) (M n0 t0 : Nat) : aK := fun pc L st sh h =>
  (sh.length ≤ n0 + R.cells ∧ tot sh ≤ t0 + R.slots) ∧ ∀ (H : Heap) (ls : Array Slot) (locs : List Loc) (cells slots : Nat), SRel D M sh h L st H ls → va_S (fun q => D.2.2.2.1 ≤ q) s.heap H locs → cells + n0 = sh.length → slots + t0 = tot sh → W p l e R s m args below meth c H locs cells slots Q (F0 m pc ls (st.map (rv D)))
def FX (p : Program) (s : State) (m : MethodId) (args : Array Value) (meth : Method) (c : Code) (D : sD) (M : Nat) : Prop :=
  (p.tables.exec = Jvm.exec ∧ c.code = bc M ∧ c.maxLocals = mxl M) ∧ (s.vm.findClass (cn (ocl M)) = some m.cls ∧ ∀ w ∈ lw_tbl, goodWord w = true → w.before args s = true) ∧ (isN M = true → meth.name = "<init>") ∧ KT D s
section SN
variable {p : Program} {l : Launch} {e : Env} {R : Room} {s : State} {m : MethodId} {args : Array Value} {below : List Frame} {meth : Method} {c : Code} {Q : State → Prop} {D : sD} {M n0 t0 : Nat}
variable {L st : List aV} {sh : SH} {h : HP} {H : Heap} {ls : Array Slot} {locs : List Loc} {cells slots pc : Nat}
theorem KK.same {pc' : Nat} {st' : List aV} (k : KK p l e R s m args below meth c Q D M n0 t0 pc' L st' sh h) (hR : SRel D M sh h L st H ls) (hF : va_S (fun q => D.2.2.2.1 ≤ q) s.heap H locs) (hc : cells + n0 = sh.length) (ht : slots + t0 = tot sh) (hS : ∀ v ∈ st', okv sh.length v) : W p l e R s m args below meth c H locs cells slots Q (F0 m pc' ls (st'.map (rv D))) :=
  k.2 H ls locs cells slots ⟨hR.1, hS, hR.2.2⟩ hF hc ht
theorem ok_c {n : Nat} {v : aV} {st : List aV} (h : okv n v) (hs : ∀ x ∈ st, okv n x) : ∀ x ∈ v :: st, okv n x := List.forall_mem_cons.mpr ⟨h, hs⟩
theorem FX.lays (X : FX p s m args meth c D M) {ci : Nat} (hc : ci < 12) : ∀ w ∈ u_ws (cn ci) (fT ci) (nF ci), w.before args s = true := by
  intro w hw
  obtain ⟨j, hj, rfl⟩ := List.mem_map.mp hw
  obtain ⟨q, hq, rfl, rfl⟩ := fws_all ci hc j (List.mem_range.mp hj)
  refine X.2.1.2 _ (List.mem_of_getElem? (fws_ok q hq)) ?_
  unfold u_lay
  split <;> rfl
/-- what is known of an object's cell -/
theorem obj_at (hW : CW D sh h H) {a ci : Nat} (hc : ci < 12) (hk : (kd sh a).1 = 10 + ci) : (6 ≤ a ∧ a < sh.length) ∧ objR D sh.length h H a ci :=
  ⟨hW.num (by omega) (by omega), (hW.cell (by omega) (by omega)).2.2.2.2 ci hk⟩
end SN
