-- ===== the tables hold: by the kernel =====
def wdL (q : Nat × Nat × Nat × Nat × Nat) : Cond := match q.2.2.1 with
  | 3 => .methodLinkNest (cn q.1) q.2.1 (ym q.2.2.2.1) (cn 10)
  | 4 => .methodLink (cn q.1) q.2.1 Lib.objectInit
  | 5 => .methodLink (cn q.1) q.2.1 ⟨"[I", "clone", "()Ljava/lang/Object;"⟩
  | 6 => .methodLink (cn q.1) q.2.1 ⟨"java/lang/System", "arraycopy", "(Ljava/lang/Object;ILjava/lang/Object;II)V"⟩
  | _ => .methodLink (cn q.1) q.2.1 (ym q.2.2.2.1)
def stN (j : Nat) : String := match j with
  | 1 => "FIRST_SETTING"
  | 2 => "LEAST_SETTING"
  | 3 => "MOST_SETTING"
  | _ => "ORDERS_OF"
def stC (j : Nat) : String := match j with
  | 4 => "WarnLines$Orders"
  | _ => "WarnLines"
def wdF (q : Nat × Nat × Nat × Nat × Nat) : Cond := cond (Nat.beq q.2.2.1 99) (.fieldLink (cn q.1) q.2.1 (stC q.2.2.2.1) (stN q.2.2.2.1) "[I") (.fieldLink (cn q.1) q.2.1 (cn q.2.2.1) (fT q.2.2.1 q.2.2.2.1).2.1 (fT q.2.2.1 q.2.2.2.1).2.2.1)
def cnX (c : Nat) : String := match c with
  | 97 => "[[I"
  | 98 => "[I"
  | _ => cn c
def wdC (q : Nat × Nat × Nat × Nat) : Cond := .classLink (cn q.1) q.2.1 (cnX q.2.2.1)
set_option maxRecDepth 100000 in
theorem lks_ok : ∀ q ∈ lks, lw_tbl[q.2.2.2.2]? = some (wdL q) := by decide +kernel
set_option maxRecDepth 100000 in
theorem flks_ok : ∀ q ∈ flks, lw_tbl[q.2.2.2.2]? = some (wdF q) := by decide +kernel
set_option maxRecDepth 100000 in
theorem clks_ok : ∀ q ∈ clks, lw_tbl[q.2.2.2]? = some (wdC q) := by decide +kernel
set_option maxRecDepth 100000 in
theorem cks_ok : ∀ q ∈ cks, lw_tbl[q.2.2.2]? = some (.constant (cn q.1) q.2.1 (Int32.ofInt q.2.2.1)) := by decide +kernel
set_option maxRecDepth 100000 in
theorem lcks_ok : ∀ q ∈ lcks, lw_tbl[q.2.2.2]? = some (.constantLong (cn q.1) q.2.1 (Int64.ofInt q.2.2.1)) := by decide +kernel
def cwd (w : Option Cond) : Option (MethodName × Nat × Option FieldType) := match w with
  | some (.code y _ n r) => some (y, n, r)
  | _ => none
set_option maxRecDepth 100000 in
theorem mws_cwd : ∀ q ∈ mws, cwd (lw_tbl[q.2.1]?) = some (ym q.1, mxl q.1, rtT q.1) ∧ pcw q.1 = q.2.1 := by decide +kernel
theorem mws_code : ∀ q ∈ mws, lw_tbl[q.2.1]? = some (.code (ym q.1) (bc q.1) (mxl q.1) (rtT q.1)) := by
  intro q hq
  obtain ⟨h, hp⟩ := mws_cwd q hq
  have hb : bc q.1 = bcOf (lw_tbl[q.2.1]?) := by unfold bc; rw [hp]
  rw [hb]
  cases hw : lw_tbl[q.2.1]? with
  | none => rw [hw] at h; cases h
  | some w =>
    rw [hw] at h
    cases w with
    | code y b n r =>
      simp only [cwd, Option.some.injEq, Prod.mk.injEq] at h
      obtain ⟨rfl, rfl, rfl⟩ := h
      rfl
    | _ => cases h
set_option maxRecDepth 100000 in
theorem mws_kind : ∀ q ∈ mws, lw_tbl[q.2.2.1]? = some (cond (isS q.1) (.static (ym q.1)) (.instanceMethod (ym q.1))) := by decide +kernel
set_option maxRecDepth 100000 in
theorem mws_sel : ∀ q ∈ mws, (isS q.1 = true ∨ isN q.1 = true) ∨ lw_tbl[q.2.2.2.1]? = some (.selects (cn (ocl q.1)) (ym q.1) (ym q.1)) := by decide +kernel
set_option maxRecDepth 100000 in
theorem mws_ini : ∀ q ∈ mws, lw_tbl[q.2.2.2.2]? = some (.initialized (cn (ocl q.1))) := by decide +kernel
set_option maxRecDepth 100000 in
theorem mws_all : ∀ k, k < nM → k ≠ 247 → ∃ q ∈ mws, q.1 = k := by decide +kernel
set_option maxRecDepth 100000 in
theorem fws_ok : ∀ q ∈ fws, lw_tbl[q.2.2]? = some (u_lay (cn q.1) (fT q.1) q.2.1) := by decide +kernel
set_option maxRecDepth 100000 in
theorem fws_all : ∀ c, c < 12 → ∀ j, j < nF c → ∃ q ∈ fws, q.1 = c ∧ q.2.1 = j := by decide +kernel
set_option maxRecDepth 100000 in
theorem iws_ok : ∀ q ∈ iws, lw_tbl[q.2.1]? = some (.instantiable (cn q.1) (nF q.1)) ∧ lw_tbl[q.2.2]? = some (.initialized (cn q.1)) := by decide +kernel
set_option maxRecDepth 100000 in
theorem iws_all : ∀ c, c < 12 → ∃ q ∈ iws, q.1 = c := by decide +kernel
theorem ym_cls : ∀ k, k < nM → (ym k).cls = cn (ocl k) ∧ ((ym k).cls ≠ "java/lang/invoke/MethodHandle" ∧ (ym k).cls ≠ "java/lang/invoke/VarHandle") := by decide +kernel
set_option maxRecDepth 100000 in
theorem ym_plain : ∀ k, k < nM → plainFor (ym k) = true := by decide +kernel
theorem ym_nar : ∀ k, k < nM → (parseMethodDescriptor (ym k).desc).map (fun d => d.parameters.length + cond (isS k) 0 1) = some (nar k) := by decide +kernel
theorem ym_ini : ∀ k, k < nM → isN k = true → (ym k).name = "<init>" ∧ rtT k = none ∧ isS k = false := by decide +kernel
theorem fT_nm : ∀ c, c < 12 → ∀ a, a < nF c → ∀ b, b < nF c → a ≠ b → (fT c a).2.1 ≠ (fT c b).2.1 := by decide +kernel
theorem fT_own : ∀ c, c < 12 → ∀ a, a < nF c → (fT c a).1 = cn c := by decide +kernel
theorem tT_ok : ∀ c, c < 12 → ∀ k, k < nF c → parseFieldDescriptor (fT c k).2.2.1 = some (tT c k) := by decide +kernel
theorem kin_ok : ∀ k, k < nM → rtT k = (match kin k with
  | 0 => none
  | 1 => some .int
  | 2 => some .boolean
  | 3 => some .long
  | _ => some (.object "WarnLines$ZoneRules")) := by decide +kernel
/-- a field's kind and its type -/
def fkb (c j : Nat) : Bool := match fkd (64 * c + j) with
  | 0 => decide (tT c j = .int) && !(fT c j).2.2.2
  | 1 => decide (tT c j = .long) && !(fT c j).2.2.2
  | 2 => (tT c j).isReference && (fT c j).2.2.2
  | 3 => (tT c j).isReference && !(fT c j).2.2.2
  | _ => false
theorem fkd_ok : ∀ c, c < 12 → ∀ j, j < nF c → fkb c j = true := by decide +kernel
