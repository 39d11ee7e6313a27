-- ===== the machine is determined; its rules =====
def PT (sh : SH) (F : aK → Prop) : Prop := ∀ K, F K → ∃ a b c x e, K a b c (sh ++ x) e ∧ ∀ K' : aK, K' a b c (sh ++ x) e → F K'
theorem PT_K {sh a b c e} : PT sh (fun K => K a b c sh e) := fun K h => ⟨a, b, c, [], e, by rw [List.append_nil]; exact h, fun _ h => by rw [List.append_nil] at h; exact h⟩
theorem PT_A {sh x a b c e} : PT sh (fun K => K a b c (sh ++ x) e) := fun K h => ⟨a, b, c, x, e, h, fun _ h => h⟩
theorem PT_F {sh} : PT sh (fun _ => False) := fun _ h => h.elim
theorem PT_g {sh : SH} {g : Prop} {F : aK → Prop} (h : PT sh F) : PT sh (fun K => g ∧ F K) := fun K hK => by
  obtain ⟨a, b, c, d, e, h1, h2⟩ := h K hK.2
  exact ⟨a, b, c, d, e, h1, fun K' q => ⟨hK.1, h2 K' q⟩⟩
theorem PT_br {sh : SH} {g : Prop} {F G : aK → Prop} (hF : PT sh F) (hG : PT sh G) : PT sh (fun K => (g → F K) ∧ (¬ g → G K)) := fun K hK => by
  by_cases q : g
  · obtain ⟨a, b, c, d, e, h1, h2⟩ := hF K (hK.1 q)
    exact ⟨a, b, c, d, e, h1, fun K' z => ⟨fun _ => h2 K' z, fun n => absurd q n⟩⟩
  · obtain ⟨a, b, c, d, e, h1, h2⟩ := hG K (hK.2 q)
    exact ⟨a, b, c, d, e, h1, fun K' z => ⟨fun n => absurd n q, fun _ => h2 K' z⟩⟩
theorem PT_sI {sh : SH} {st : List aV} {f : Int → List aV → aK → Prop} (h : ∀ a r, PT sh (f a r)) : PT sh (fun K => sI st fun a r => f a r K) := fun K hK => by
  unfold sI at hK ⊢
  split at hK
  · exact h _ _ K hK
  · exact hK.elim
theorem PT_sL {sh : SH} {st : List aV} {f : Int → List aV → aK → Prop} (h : ∀ a r, PT sh (f a r)) : PT sh (fun K => sL st fun a r => f a r K) := fun K hK => by
  unfold sL at hK ⊢
  split at hK
  · exact h _ _ K hK
  · exact hK.elim
theorem PT_sR {sh : SH} {st : List aV} {f : Nat → List aV → aK → Prop} (h : ∀ a r, PT sh (f a r)) : PT sh (fun K => sR st fun a r => f a r K) := fun K hK => by
  unfold sR at hK ⊢
  split at hK
  · exact h _ _ K hK
  · exact hK.elim
theorem PT_ldI {sh : SH} {L : List aV} {n : Nat} {f : Int → aK → Prop} (h : ∀ v, PT sh (f v)) : PT sh (fun K => ldI L n fun v => f v K) := fun K hK => by
  unfold ldI at hK ⊢
  split at hK
  · exact h _ K hK
  · exact hK.elim
theorem PT_ldJ {sh : SH} {L : List aV} {n : Nat} {f : Int → aK → Prop} (h : ∀ v, PT sh (f v)) : PT sh (fun K => ldJ L n fun v => f v K) := fun K hK => by
  unfold ldJ at hK ⊢
  split at hK
  · exact h _ K hK
  · exact hK.elim
theorem PT_ldR {sh : SH} {L : List aV} {n : Nat} {f : Nat → aK → Prop} (h : ∀ v, PT sh (f v)) : PT sh (fun K => ldR L n fun v => f v K) := fun K hK => by
  unfold ldR at hK ⊢
  split at hK
  · exact h _ K hK
  · exact hK.elim
theorem PT_bin {sh : SH} {st : List aV} {g : Int → Int → Int} {f : List aV → aK → Prop} (h : ∀ r, PT sh (f r)) : PT sh (fun K => bin st g fun r => f r K) := PT_sI fun _ _ => PT_sI fun _ _ => h _
theorem PT_binL {sh : SH} {st : List aV} {g : Int → Int → Int} {f : List aV → aK → Prop} (h : ∀ r, PT sh (f r)) : PT sh (fun K => binL st g fun r => f r K) := PT_sL fun _ _ => PT_sL fun _ _ => h _
set_option maxHeartbeats 4000000 in
theorem stp_PT (ini : Bool) (i : Instr) (np : Nat) (L st : List aV) (sh : SH) (h : HP) : PT sh (fun K => stp ini i np L st sh h K) := by
  cases i
  case iconst n => exact PT_K
  case sipush n => exact PT_K
  case iload k => exact PT_ldI fun _ => PT_K
  case lload k => exact PT_ldJ fun _ => PT_K
  case aload k => exact PT_ldR fun _ => PT_K
  case istore k => exact PT_sI fun _ _ => PT_g PT_K
  case astore k => exact PT_sR fun _ _ => PT_g PT_K
  case lstore k => exact PT_sL fun _ _ => PT_g PT_K
  case iinc k n => exact PT_ldI fun _ => PT_K
  case iadd =>
    show PT sh (fun K => bin st _ fun r => K np L r sh h)
    exact PT_bin fun _ => PT_K
  case isub =>
    show PT sh (fun K => bin st _ fun r => K np L r sh h)
    exact PT_bin fun _ => PT_K
  case imul =>
    show PT sh (fun K => bin st _ fun r => K np L r sh h)
    exact PT_bin fun _ => PT_K
  case idiv => exact PT_sI fun _ _ => PT_sI fun _ _ => PT_g PT_K
  case irem => exact PT_sI fun _ _ => PT_sI fun _ _ => PT_g PT_K
  case ineg => exact PT_sI fun _ _ => PT_K
  case iand =>
    show PT sh (fun K => bin st _ fun r => K np L r sh h)
    exact PT_bin fun _ => PT_K
  case ior =>
    show PT sh (fun K => bin st _ fun r => K np L r sh h)
    exact PT_bin fun _ => PT_K
  case ishl =>
    show PT sh (fun K => bin st _ fun r => K np L r sh h)
    exact PT_bin fun _ => PT_K
  case ishr =>
    show PT sh (fun K => bin st _ fun r => K np L r sh h)
    exact PT_bin fun _ => PT_K
  case iushr =>
    show PT sh (fun K => bin st _ fun r => K np L r sh h)
    exact PT_bin fun _ => PT_K
  case ladd =>
    show PT sh (fun K => binL st _ fun r => K np L r sh h)
    exact PT_binL fun _ => PT_K
  case lsub =>
    show PT sh (fun K => binL st _ fun r => K np L r sh h)
    exact PT_binL fun _ => PT_K
  case lmul =>
    show PT sh (fun K => binL st _ fun r => K np L r sh h)
    exact PT_binL fun _ => PT_K
  case ldiv => exact PT_sL fun _ _ => PT_sL fun _ _ => PT_g PT_K
  case lrem => exact PT_sL fun _ _ => PT_sL fun _ _ => PT_g PT_K
  case lneg => exact PT_sL fun _ _ => PT_K
  case land =>
    show PT sh (fun K => binL st _ fun r => K np L r sh h)
    exact PT_binL fun _ => PT_K
  case lor =>
    show PT sh (fun K => binL st _ fun r => K np L r sh h)
    exact PT_binL fun _ => PT_K
  case lxor =>
    show PT sh (fun K => binL st _ fun r => K np L r sh h)
    exact PT_binL fun _ => PT_K
  case lshl => exact PT_sI fun _ _ => PT_sL fun _ _ => PT_K
  case lushr => exact PT_sI fun _ _ => PT_sL fun _ _ => PT_K
  case lcmp => exact PT_sL fun _ _ => PT_sL fun _ _ => PT_K
  case i2l => exact PT_sI fun _ _ => PT_K
  case l2i => exact PT_sL fun _ _ => PT_K
  case i2b => exact PT_sI fun _ _ => PT_K
  case i2s => exact PT_sI fun _ _ => PT_K
  case dup =>
    intro K hK
    match st, hK with
    | .inl a :: r, hK => exact (PT_K (sh := sh) (a := np) (b := L) (c := vi a :: vi a :: r) (e := h)) K hK
    | .inr (.inr (.inl a)) :: r, hK => exact (PT_K (sh := sh) (a := np) (b := L) (c := vr a :: vr a :: r) (e := h)) K hK
  case dup2 => exact PT_sI fun _ _ => PT_sR fun _ _ => PT_K
  case pop => exact PT_sI fun _ _ => PT_K
  case pop2 => exact PT_sR fun _ _ => PT_g PT_K
  case dup_x2 => exact PT_sR fun _ _ => PT_g PT_K
  case ifCond c t => exact PT_sI fun _ _ => PT_br PT_K PT_K
  case if_icmp c t => exact PT_sI fun _ _ => PT_sI fun _ _ => PT_br PT_K PT_K
  case goto t => exact PT_K
  case tableswitch d lo hi os => exact PT_sI fun _ _ => PT_br PT_K PT_K
  case lookupswitch d ps => exact PT_sI fun _ _ => PT_K
  case getfield k => exact PT_sR fun _ _ => PT_g PT_K
  case instanceof k => exact PT_sR fun _ _ => PT_g PT_K
  case checkcast k => exact PT_sR fun _ _ => PT_g PT_K
  case ret k => exact PT_sR fun _ _ => PT_g PT_K
  case putfield k => exact PT_sI fun _ _ => PT_sR fun _ _ => PT_g PT_K
  case putstatic k => exact PT_sL fun _ _ => PT_sR fun _ _ => PT_g PT_K
  case invokedynamic k => exact PT_sR fun _ _ => PT_sR fun _ _ => PT_g PT_K
  case ldc k => exact PT_sR fun _ _ => PT_sR fun _ _ => PT_g PT_K
  case getstatic j => exact PT_K
  case iaload => exact PT_sI fun _ _ => PT_sR fun _ _ => PT_g PT_K
  case laload => exact PT_sI fun _ _ => PT_sR fun _ _ => PT_g PT_K
  case baload => exact PT_sI fun _ _ => PT_sR fun _ _ => PT_g PT_K
  case aaload => exact PT_sI fun _ _ => PT_sR fun _ _ => PT_g PT_K
  case iastore => exact PT_sI fun _ _ => PT_sI fun _ _ => PT_sR fun _ _ => PT_g PT_K
  case lastore => exact PT_sL fun _ _ => PT_sI fun _ _ => PT_sR fun _ _ => PT_g PT_K
  case bastore => exact PT_sI fun _ _ => PT_sI fun _ _ => PT_sR fun _ _ => PT_g PT_K
  case aastore => exact PT_sR fun _ _ => PT_sI fun _ _ => PT_sR fun _ _ => PT_g PT_K
  case arraylength => exact PT_sR fun _ _ => PT_g PT_K
  case new c => exact PT_A
  case newarray t => exact PT_sI fun _ _ => PT_g PT_A
  case anewarray c => exact PT_sI fun _ _ => PT_g PT_A
  case multianewarray c n => exact PT_sI fun _ _ => PT_sI fun _ _ => PT_g PT_A
  case swap => exact PT_sR fun _ _ => PT_g PT_A
  case nop => exact PT_sI fun _ _ => PT_sI fun _ _ => PT_sR fun _ _ => PT_sI fun _ _ => PT_sR fun _ _ => PT_g PT_K
  all_goals exact PT_F
/-- the instructions that stp speaks of -/
def plI (i : Instr) : Bool := match i with
  | .invokestatic _ | .ireturn | .lreturn | .areturn | .return_ => false
  | _ => true
theorem Wn_stp {n ρ M pc np : Nat} {i : Instr} {L st : List aV} {sh : SH} {h : HP} {Q : aQ} (hc : cod M pc = some (i, np)) (hp : plI i = true) : Wn (n + 1) ρ M pc L st sh h Q = stp (isN M) i np L st sh h fun pc' L' st' sh' h' => Wn n ρ M pc' L' st' sh' h' Q := by
  rw [Wn, hc]
  cases i <;> first | rfl | cases hp
theorem Wn_call {n ρ M pc np k : Nat} {L st : List aV} {sh : SH} {h : HP} {Q : aQ} (hc : cod M pc = some (.invokestatic k, np)) : Wn (n + 1) ρ M pc L st sh h Q = (match tak (nar k) st [] with
        | none => False
        | some (as, r) => (rk k as < ρ ∧ csum r ≤ 8 ∧ (ent0 as).length ≤ mxl k ∧ rcv k sh as) ∧ Wn n (rk k as) k 0 (ent k as) [] sh h fun v sh' h' => Wn n ρ M np L (psh v r) sh' h' Q) := by
  rw [Wn, hc]
  cases hT : tak (nar k) st [] <;> simp only [hT]
theorem Wn_none {n ρ M pc : Nat} {L st : List aV} {sh : SH} {h : HP} {Q : aQ} (hc : cod M pc = none) : ¬ Wn n ρ M pc L st sh h Q := by
  cases n with
  | zero => intro q; exact q
  | succ n => rw [Wn, hc]; exact fun q => q
theorem Wn_ret {n ρ M pc np : Nat} {i : Instr} {L st : List aV} {sh : SH} {h : HP} {Q : aQ} (hc : cod M pc = some (i, np)) (hp : plI i = false) (hk : ∀ k, i ≠ .invokestatic k) (hW : Wn (n + 1) ρ M pc L st sh h Q) : ∃ r, Q r sh h ∧ ∀ (m ρ' : Nat) (Q' : aQ), Q' r sh h → Wn (m + 1) ρ' M pc L st sh h Q' := by
  rw [Wn, hc] at hW
  cases i <;> try cases hp
  case invokestatic k => exact absurd rfl (hk k)
  case ireturn =>
    dsimp only [sI] at hW
    split at hW
    · refine ⟨_, hW.2, fun m ρ' Q' q => ?_⟩
      rw [Wn, hc]
      exact ⟨hW.1, q⟩
    · exact hW.elim
  case lreturn =>
    dsimp only [sL] at hW
    split at hW
    · refine ⟨_, hW.2, fun m ρ' Q' q => ?_⟩
      rw [Wn, hc]
      exact ⟨hW.1, q⟩
    · exact hW.elim
  case areturn =>
    dsimp only [sR] at hW
    split at hW
    · refine ⟨_, hW.2, fun m ρ' Q' q => ?_⟩
      rw [Wn, hc]
      exact ⟨hW.1, q⟩
    · exact hW.elim
  case return_ =>
    refine ⟨_, hW.2, fun m ρ' Q' q => ?_⟩
    rw [Wn, hc]
    exact ⟨hW.1, q⟩
theorem Wn_pt : ∀ (n ρ M pc : Nat) (L st : List aV) (sh : SH) (h : HP) (Q : aQ), Wn n ρ M pc L st sh h Q → ∃ r x h', Q r (sh ++ x) h' ∧ ∀ (m : Nat) (Q' : aQ), n ≤ m → Q' r (sh ++ x) h' → Wn m ρ M pc L st sh h Q' := by
  intro n
  induction n with
  | zero => intro ρ M pc L st sh h Q hW; exact hW.elim
  | succ n ih =>
    intro ρ M pc L st sh h Q hW
    cases hc : cod M pc with
    | none => exact absurd hW (Wn_none hc)
    | some q =>
      obtain ⟨i, np⟩ := q
      cases hp : plI i with
      | true =>
        rw [Wn_stp hc hp] at hW
        obtain ⟨a, b, c, x, e, h1, h2⟩ := stp_PT _ i np L st sh h _ hW
        obtain ⟨r, x2, h', q1, q2⟩ := ih _ _ _ _ _ _ _ _ h1
        rw [List.append_assoc] at q1 q2
        refine ⟨r, x ++ x2, h', q1, fun m Q' hm z => ?_⟩
        obtain ⟨m', rfl⟩ : ∃ m', m = m' + 1 := ⟨m - 1, by omega⟩
        rw [Wn_stp hc hp]
        exact h2 _ (q2 m' Q' (by omega) z)
      | false =>
        by_cases hk : ∀ k, i ≠ .invokestatic k
        · obtain ⟨r, q1, q2⟩ := Wn_ret hc hp hk hW
          refine ⟨r, [], h, by rw [List.append_nil]; exact q1, fun m Q' hm z => ?_⟩
          obtain ⟨m', rfl⟩ : ∃ m', m = m' + 1 := ⟨m - 1, by omega⟩
          rw [List.append_nil] at z
          exact q2 m' ρ Q' z
        · obtain ⟨k, rfl⟩ : ∃ k, i = .invokestatic k := Classical.byContradiction fun z => hk fun k e => z ⟨k, e⟩
          rw [Wn_call hc] at hW
          cases ht : tak (nar k) st [] with
          | none => rw [ht] at hW; exact hW.elim
          | some q =>
            obtain ⟨as, r⟩ := q
            rw [ht] at hW
            dsimp only at hW
            obtain ⟨v, x1, h1, q1, q2⟩ := ih _ _ _ _ _ _ _ _ hW.2
            obtain ⟨r2, x2, h2, q3, q4⟩ := ih _ _ _ _ _ _ _ _ q1
            rw [List.append_assoc] at q3 q4
            refine ⟨r2, x1 ++ x2, h2, q3, fun m Q' hm z => ?_⟩
            obtain ⟨m', rfl⟩ : ∃ m', m = m' + 1 := ⟨m - 1, by omega⟩
            rw [Wn_call hc, ht]
            exact ⟨hW.1, q2 m' _ (by omega) (q4 m' Q' (by omega) z)⟩
/-- some number of steps leads from here to the method's end, with Q there -/
def WG (ρ M pc : Nat) (L st : List aV) (sh : SH) (h : HP) (Q : aQ) : Prop := ∃ n, Wn n ρ M pc L st sh h Q
theorem WG.mono {ρ M pc : Nat} {L st : List aV} {sh : SH} {h : HP} {Q Q' : aQ} (hW : WG ρ M pc L st sh h Q) (hq : ∀ r sh' h', Q r sh' h' → Q' r sh' h') : WG ρ M pc L st sh h Q' := by
  obtain ⟨n, hn⟩ := hW
  obtain ⟨r, x, h', q1, q2⟩ := Wn_pt _ _ _ _ _ _ _ _ _ hn
  exact ⟨n, q2 n Q' (Nat.le_refl _) (hq _ _ _ q1)⟩
theorem wg_step {ρ M pc np : Nat} {i : Instr} {L st : List aV} {sh : SH} {h : HP} {Q : aQ} (hc : cod M pc = some (i, np)) (hp : plI i = true) (k : stp (isN M) i np L st sh h fun pc' L' st' sh' h' => WG ρ M pc' L' st' sh' h' Q) : WG ρ M pc L st sh h Q := by
  obtain ⟨a, b, c, d, e, ⟨n, h1⟩, h2⟩ := stp_PT _ i np L st sh h _ k
  refine ⟨n + 1, ?_⟩
  rw [Wn_stp hc hp]
  exact h2 _ h1
theorem wg_call {ρ M pc np k : Nat} {L st as r : List aV} {sh : SH} {h : HP} {Q : aQ} (hc : cod M pc = some (.invokestatic k, np)) (ht : tak (nar k) st [] = some (as, r)) (hr : rk k as < ρ) (hs : csum r ≤ 8) (he : (ent0 as).length ≤ mxl k) (hv : rcv k sh as)
    (hW : WG (rk k as) k 0 (ent k as) [] sh h fun v sh' h' => WG ρ M np L (psh v r) sh' h' Q) : WG ρ M pc L st sh h Q := by
  obtain ⟨n, hn⟩ := hW
  obtain ⟨v, x1, h1, ⟨n2, q1⟩, q2⟩ := Wn_pt _ _ _ _ _ _ _ _ _ hn
  obtain ⟨r2, x2, h2, q3, q4⟩ := Wn_pt _ _ _ _ _ _ _ _ _ q1
  refine ⟨n + n2 + 1, ?_⟩
  rw [Wn_call hc, ht]
  exact ⟨⟨hr, hs, he, hv⟩, q2 (n + n2) _ (by omega) (q4 (n + n2) Q (by omega) q3)⟩
theorem wg_iret {ρ M pc np : Nat} {L : List aV} {a : Int} {sh : SH} {h : HP} {Q : aQ} (hc : cod M pc = some (.ireturn, np)) (hk : kin M = 1) (k : Q (some (vi a)) sh h) : WG ρ M pc L [vi a] sh h Q := by
  refine ⟨1, ?_⟩
  rw [Wn, hc]
  exact ⟨⟨rfl, Or.inl hk⟩, k⟩
theorem wg_zret {ρ M pc np : Nat} {L : List aV} {a : Int} {sh : SH} {h : HP} {Q : aQ} (hc : cod M pc = some (.ireturn, np)) (hk : kin M = 2) (ha : a = 0 ∨ a = 1) (k : Q (some (vi a)) sh h) : WG ρ M pc L [vi a] sh h Q := by
  refine ⟨1, ?_⟩
  rw [Wn, hc]
  exact ⟨⟨rfl, Or.inr ⟨hk, ha⟩⟩, k⟩
theorem wg_lret {ρ M pc np : Nat} {L : List aV} {a : Int} {sh : SH} {h : HP} {Q : aQ} (hc : cod M pc = some (.lreturn, np)) (hk : kin M = 3) (k : Q (some (vl a)) sh h) : WG ρ M pc L [vl a] sh h Q := by
  refine ⟨1, ?_⟩
  rw [Wn, hc]
  exact ⟨⟨rfl, hk⟩, k⟩
theorem wg_aret {ρ M pc np : Nat} {L : List aV} {a : Nat} {sh : SH} {h : HP} {Q : aQ} (hc : cod M pc = some (.areturn, np)) (hk : kin M = 4) (k : Q (some (vr a)) sh h) : WG ρ M pc L [vr a] sh h Q := by
  refine ⟨1, ?_⟩
  rw [Wn, hc]
  exact ⟨⟨rfl, hk⟩, k⟩
theorem wg_vret {ρ M pc np : Nat} {L : List aV} {sh : SH} {h : HP} {Q : aQ} (hc : cod M pc = some (.return_, np)) (hk : kin M = 0) (k : Q none sh h) : WG ρ M pc L [] sh h Q := by
  refine ⟨1, ?_⟩
  rw [Wn, hc]
  exact ⟨⟨rfl, hk⟩, k⟩
