-- ===== calls; whole methods =====
theorem Met.ofWF {l : Launch} {y : MethodName} {ws ws' : List Cond} {rm : Room} {Pc : Array Value → State → Prop} {Qc : Array Value → State → Outcome → State → Prop} {mc ms : Nat} {free : Addr → Prop} {cc : ByteArray} {maxL : Nat} {ret : Option FieldType}
    (hy : plainFor y = true) (hw : ws = Cond.code y cc maxL ret :: ws')
    (body : ∀ p e s m args below meth c s₁, BodyLoose p l y (headSpec ws rm) cc maxL ret e s m args below meth c s₁ → c.maxLocals = maxL → Pc args s →
      W p l e (headSpec ws rm).room s m args below meth c s.heap [] 0 0 (MQ below Qc args s mc ms free) (entryFrame m args maxL)) : Met l y ws rm Pc Qc mc ms free := by
  refine MetFree.of_bodySF (code := cc) (maxLocals := maxL) (ret := ret) hy ?_ ?_
  · intro args s m h hn
    obtain ⟨meth, c, h1, h2, h3, h4, h5, h6, -, -⟩ := Cond.code_spec hn (atoms_spec (ws := ws) h _ (by rw [hw]; exact List.mem_cons_self))
    exact ⟨meth, c, h1, h2, h3, h4, h5, h6⟩
  · intro p e s m args below meth c s₁ B hml hP _
    have hh0 : s₁.heap = s.heap := by rw [B.state]; rfl
    obtain ⟨t, a1, o, b1, b2, b3⟩ := body p e s m args below meth c s₁ B hml hP s₁ hh0 (Stand.of_body B)
    exact ⟨t, o, a1, b1, b2, ⟨b3.1, b3.2⟩⟩
def TG : List Cond := lw_tbl.filter goodWord
theorem TG_of {w : Cond} (h : w ∈ lw_tbl) (hg : goodWord w = true) : w ∈ TG := List.mem_filter.mpr ⟨h, hg⟩
def wsM (k : Nat) : List Cond := Cond.code (ym k) (bc k) (mxl k) (rtT k) :: TG
def rmM (ρ mc ms : Nat) : Room := { frames := ρ + 1, cells := mc, slots := ms, locals := (ρ + 1) * 200 }
theorem mw_of {k : Nat} (hk : k < nM) (h7 : k ≠ 247) : Cond.code (ym k) (bc k) (mxl k) (rtT k) ∈ lw_tbl ∧ cond (isS k) (Cond.static (ym k)) (Cond.instanceMethod (ym k)) ∈ lw_tbl ∧ Cond.initialized (cn (ocl k)) ∈ lw_tbl ∧ ((isS k = true ∨ isN k = true) ∨ Cond.selects (cn (ocl k)) (ym k) (ym k) ∈ lw_tbl) := by
  obtain ⟨q, hq, rfl⟩ := mws_all k hk h7
  exact ⟨List.mem_of_getElem? (mws_code q hq), List.mem_of_getElem? (mws_kind q hq), List.mem_of_getElem? (mws_ini q hq), (mws_sel q hq).imp id List.mem_of_getElem?⟩
theorem wsM_good {k : Nat} (hk : k < nM) (h7 : k ≠ 247) : GoodIn TG (wsM k) := by
  intro w hw
  rcases List.mem_cons.mp hw with rfl | hw
  · exact ⟨TG_of (mw_of hk h7).1 rfl, Or.inl rfl⟩
  · exact ⟨hw, good_of_word (List.mem_filter.mp hw).2⟩
def PcM (D : sD) (as : List aV) (sh : SH) (h : HP) : Array Value → State → Prop := fun v U => v = (as.map (rv D)).toArray ∧ KT D U ∧ CW D sh h U.heap ∧ ∀ x ∈ as, okv sh.length x
def QcM (D : sD) (r : Option aV) (sh' : SH) (h' : HP) : Array Value → State → Outcome → State → Prop := fun _ st o t => o = .returned (r.map (rv D)) ∧ CW D sh' h' t.heap ∧ va_F (fun q => D.2.2.2.1 ≤ q) st t ∧ ∀ x, r = some x → okv sh'.length x
theorem CW.sA {D : sD} {sh : SH} {h : HP} {H : Heap} (W : CW D sh h H) : ∀ a, 1 ≤ a → a < 6 → D.2.2.2.2 a < D.2.2.2.1 := fun a h1 h2 => (W.2.2.1 a h1 h2).2.1
theorem PcM_blind (D : sD) (as : List aV) (sh : SH) (h : HP) : FrameBlind (PcM D as sh h) := by
  intro a U g mk hp
  obtain ⟨h1, h2, h3, h4⟩ := hp
  refine ⟨h1, ?_, h3, h4⟩
  exact KT.moved (u := U) (U := U.calling g mk a) (Vm.Alike.refl U.vm) (fun w hw => va_Nw.same (u := U) (U := U.calling g mk a) rfl rfl (h2.2.2.2.2.1 w hw)) h2.2.2.2.2.2.2 (fun q _ => rfl) h3.sA h2
theorem KT_there {D : sD} {sh : SH} {h : HP} {H : Heap} {s U : State} {locs : List Loc} (hK : KT D s) (hW : CW D sh h H) (hF : va_S (fun q => D.2.2.2.1 ≤ q) s.heap H locs) (hU : U.heap = H) (hw : s.WarmedH U.vm) : KT D U := by
  refine KT.moved hw.alike (fun w hw2 => va_Nw.warmM hw (hK.2.2.2.2.1 w hw2)) (by rw [hU, hW.1.2]; omega) (fun q hq => ?_) hW.sA hK
  rw [hU]
  exact hF.2.1 q (Nat.lt_of_lt_of_le hq hK.2.2.2.2.2.2) (Nat.not_le.mpr hq)
theorem tak_spec : ∀ (n : Nat) (st acc as r : List aV), tak n st acc = some (as, r) → ∃ ys, st = ys ++ r ∧ as = ys.reverse ++ acc ∧ ys.length = n
  | 0, st, acc, as, r, h => by
    unfold tak at h
    cases h
    exact ⟨[], rfl, rfl, rfl⟩
  | n + 1, [], acc, as, r, h => by
    unfold tak at h
    cases h
  | n + 1, v :: st, acc, as, r, h => by
    unfold tak at h
    obtain ⟨ys, h1, h2, h3⟩ := tak_spec n st (v :: acc) as r h
    exact ⟨v :: ys, by rw [h1]; rfl, by rw [h2]; simp, by simp [h3]⟩
theorem psh_map {D : sD} (v : Option aV) (r : List aV) : (psh v r).map (rv D) = (v.map (rv D)).toList ++ r.map (rv D) := by cases v <;> rfl
theorem ent_slots {D : sD} : ∀ (as : List aV) (i : Nat) (v : aV), (∀ x ∈ as, ∃ n, okv n x) → (ent0 as)[i]? = some v → v = vu ∨ (v ∈ as ∧ (lg_sl (as.map (rv D)))[i]? = some (.val (rv D v)))
  | [], i, v, _, h => by simp [ent0] at h
  | .inl a :: r, i, v, hx, h => by
    have e : lg_sl ((vi a :: r).map (rv D)) = .val (rv D (vi a)) :: lg_sl (r.map (rv D)) := rfl
    rw [e]
    cases i with
    | zero => cases h; exact Or.inr ⟨List.mem_cons_self, rfl⟩
    | succ i =>
      rcases ent_slots r i v (fun x h => hx x (List.mem_cons_of_mem _ h)) h with q | q
      · exact Or.inl q
      · exact Or.inr ⟨List.mem_cons_of_mem _ q.1, q.2⟩
  | .inr (.inl a) :: r, i, v, hx, h => by
    have e : lg_sl ((vl a :: r).map (rv D)) = .val (rv D (vl a)) :: .second :: lg_sl (r.map (rv D)) := rfl
    rw [e]
    cases i with
    | zero => cases h; exact Or.inr ⟨List.mem_cons_self, rfl⟩
    | succ i =>
      cases i with
      | zero => cases h; exact Or.inl rfl
      | succ i =>
        rcases ent_slots r i v (fun x h => hx x (List.mem_cons_of_mem _ h)) h with q | q
        · exact Or.inl q
        · exact Or.inr ⟨List.mem_cons_of_mem _ q.1, q.2⟩
  | .inr (.inr (.inl a)) :: r, i, v, hx, h => by
    have e : lg_sl ((vr a :: r).map (rv D)) = .val (rv D (vr a)) :: lg_sl (r.map (rv D)) := by
      unfold lg_sl
      rw [List.map_cons, List.flatMap_cons]
      have hcat : ¬ (rv D (vr a)).category = 2 := rv_cat1 (fun z q => nomatch q)
      rw [if_neg hcat]
      rfl
    rw [e]
    cases i with
    | zero => cases h; exact Or.inr ⟨List.mem_cons_self, rfl⟩
    | succ i =>
      rcases ent_slots r i v (fun x h => hx x (List.mem_cons_of_mem _ h)) h with q | q
      · exact Or.inl q
      · exact Or.inr ⟨List.mem_cons_of_mem _ q.1, q.2⟩
  | .inr (.inr (.inr ())) :: r, i, v, hx, h => by
    obtain ⟨n, hn⟩ := hx _ List.mem_cons_self
    exact hn.elim
theorem ent_len {D : sD} : ∀ (as : List aV), (∀ x ∈ as, ∃ n, okv n x) → (lg_sl (as.map (rv D))).length = (ent0 as).length
  | [], _ => rfl
  | .inl a :: r, hx => by
    have := ent_len (D := D) r (fun x h => hx x (List.mem_cons_of_mem _ h))
    show (lg_sl (r.map (rv D))).length + 1 = (ent0 r).length + 1
    omega
  | .inr (.inl a) :: r, hx => by
    have := ent_len (D := D) r (fun x h => hx x (List.mem_cons_of_mem _ h))
    show (lg_sl (r.map (rv D))).length + 1 + 1 = (ent0 r).length + 1 + 1
    omega
  | .inr (.inr (.inl a)) :: r, hx => by
    have h1 := ent_len (D := D) r (fun x h => hx x (List.mem_cons_of_mem _ h))
    have e : lg_sl ((vr a :: r).map (rv D)) = .val (rv D (vr a)) :: lg_sl (r.map (rv D)) := by
      unfold lg_sl
      rw [List.map_cons, List.flatMap_cons]
      have hcat : ¬ (rv D (vr a)).category = 2 := rv_cat1 (fun z q => nomatch q)
      rw [if_neg hcat]
      rfl
    rw [e]
    show (lg_sl (r.map (rv D))).length + 1 = (ent0 r).length + 1
    omega
  | .inr (.inr (.inr ())) :: r, hx => by
    obtain ⟨n, hn⟩ := hx _ List.mem_cons_self
    exact hn.elim
theorem padT_len : ∀ (n : Nat) (L : List aV), (padT n L).length = n
  | 0, _ => rfl
  | n + 1, [] => by simp [padT, padT_len n []]
  | n + 1, v :: r => by simp [padT, padT_len n r]
theorem padT_get : ∀ (n : Nat) (L : List aV) (i : Nat) (v : aV), (padT n L)[i]? = some v → v = vu ∨ L[i]? = some v
  | 0, _, i, v, h => by simp [padT] at h
  | n + 1, [], i, v, h => by
    cases i with
    | zero => cases h; exact Or.inl rfl
    | succ i => exact Or.inl ((padT_get n [] i v h).resolve_right (fun q => by simp at q))
  | n + 1, x :: r, i, v, h => by
    cases i with
    | zero => exact Or.inr h
    | succ i => exact padT_get n r i v h
theorem ent_LR {D : sD} {k n : Nat} {as : List aV} (hx : ∀ x ∈ as, okv n x) (hl : (ent0 as).length ≤ mxl k) : LR D (mxl k) n (ent k as) ((lg_sl (as.map (rv D)) ++ List.replicate (mxl k - (lg_sl (as.map (rv D))).length) Slot.unset).toArray) := by
  have hx2 : ∀ x ∈ as, ∃ n, okv n x := fun x h => ⟨n, hx x h⟩
  have e := lv_entry (as.map (rv D)) (n := mxl k) (by rw [ent_len as hx2]; exact hl)
  refine ⟨e.1, padT_len _ _, e.2.1, fun i v hv => ?_⟩
  rcases padT_get _ _ _ _ hv with q | q
  · exact Or.inl q
  · rcases ent_slots (D := D) as i v hx2 q with q | ⟨q1, q2⟩
    · exact Or.inl q
    · refine Or.inr ⟨hx v q1, ?_⟩
      rw [List.getElem?_toArray, List.getElem?_append_left (List.getElem?_eq_some_iff.mp q2).1]
      exact q2
def RetI (D : sD) (M : Nat) (ri : Instr) (r : Option aV) (st : List Value) : Prop :=
  (ri = .ireturn ∧ ∃ a, r = some (vi a) ∧ st = [.int (i32 a)] ∧ (kin M = 1 ∨ (kin M = 2 ∧ (a = 0 ∨ a = 1)))) ∨ (ri = .lreturn ∧ ∃ a, r = some (vl a) ∧ st = [.long (i64 a)] ∧ kin M = 3) ∨ (ri = .areturn ∧ ∃ a, r = some (vr a) ∧ st = [rv D (vr a)] ∧ kin M = 4) ∨ (ri = .return_ ∧ r = none ∧ st = [] ∧ kin M = 0)
section SR
variable {p : Program} {l : Launch} {e : Env} {R : Room} {s : State} {m : MethodId} {args : Array Value} {below : List Frame} {meth : Method} {c : Code} {Q : State → Prop} {D : sD}
variable {H : Heap} {ls : Array Slot} {locs : List Loc} {cells slots pc mc ms : Nat}
theorem call_on {st0 rest : List Value} {a : Array Value} {v : Option aV} {sh1 : SH} {h1 : HP} (hr : va_Run p l e R s m args below meth c H locs cells slots mc ms (F0 m pc ls st0) rest (QcM D v sh1 h1 a) (fun q => D.2.2.2.1 ≤ q)) (hF : va_S (fun q => D.2.2.2.1 ≤ q) s.heap H locs)
    (kk : ∀ (H1 : Heap) (locs1 : List Loc), CW D sh1 h1 H1 → va_S (fun q => D.2.2.2.1 ≤ q) s.heap H1 locs1 → (∀ x, v = some x → okv sh1.length x) → W p l e R s m args below meth c H1 locs1 (cells + mc) (slots + ms) Q (F0 m (pc + 3) ls ((v.map (rv D)).toList ++ rest))) : W p l e R s m args below meth c H locs cells slots Q (F0 m pc ls st0) := by
  intro T hT X
  obtain ⟨w, st₀, t, T', L, h0, X', hL, e1, e2, ⟨hv, hb, ⟨hz, hk⟩, hok⟩, st⟩ := hr T hT X
  cases hv
  rw [h0] at hz hk
  obtain ⟨t2, a1, b1⟩ := kk T'.heap (locs ++ L) (by rw [e1]; exact hb) ⟨Nat.le_trans hF.1 (by rw [e1]; exact hz), fun q h1 h2 => by rw [e1, hk q (Nat.lt_of_lt_of_le h1 hF.1) h2]; exact hF.2.1 q h1 h2, fun q hq => by
      rcases List.mem_append.mp hq with h | h
      · exact hF.2.2 q h
      · exact hL q h⟩ hok T' rfl X'
  exact ⟨t2, st t2 a1, b1⟩
end SR
/-- what the theorem on runs says, for n steps -/
def RunOk (l : Launch) (D : sD) (n : Nat) : Prop := ∀ (ρ M pc : Nat) (L st : List aV) (sh : SH) (h : HP) (r : Option aV) (sh' : SH) (h' : HP), Wn n ρ M pc L st sh h (fun a b c => a = r ∧ b = sh' ∧ c = h') → M < nM →
  ∀ (p : Program) (e : Env) (R : Room) (s : State) (m : MethodId) (args : Array Value) (below : List Frame) (meth : Method) (c : Code) (Q : State → Prop) (n0 t0 : Nat) (H : Heap) (ls : Array Slot) (locs : List Loc) (cells slots : Nat),
    FX p s m args meth c D M → (ρ + 1 ≤ R.frames ∧ (ρ + 1) * 200 ≤ R.locals) → (sh'.length ≤ n0 + R.cells ∧ tot sh' ≤ t0 + R.slots) → SRel D M sh h L st H ls → va_S (fun q => D.2.2.2.1 ≤ q) s.heap H locs → cells + n0 = sh.length → slots + t0 = tot sh →
    (∀ (pc2 : Nat) (ls2 : Array Slot) (H2 : Heap) (locs2 : List Loc) (cells2 slots2 : Nat) (ri : Instr) (st2 : List Value), decode (bc M) pc2 = .ok (ri, 1) → RetI D M ri r st2 → CW D sh' h' H2 → (∀ x, r = some x → okv sh'.length x) → va_S (fun q => D.2.2.2.1 ≤ q) s.heap H2 locs2 → cells2 + n0 = sh'.length → slots2 + t0 = tot sh' → W p l e R s m args below meth c H2 locs2 cells2 slots2 Q (F0 m pc2 ls2 st2)) →
    W p l e R s m args below meth c H locs cells slots Q (F0 m pc ls (st.map (rv D)))
theorem met_of {l : Launch} {D : sD} {n k : Nat} (ih : RunOk l D n) (hk : k < nM) {as : List aV} {sh sh' x : SH} {h h' : HP} {v : Option aV} {ρ : Nat} (hs' : sh' = sh ++ x) (hl : (ent0 as).length ≤ mxl k) (hW : Wn n ρ k 0 (ent k as) [] sh h (fun a b c => a = v ∧ b = sh' ∧ c = h')) :
    Met l (ym k) (wsM k) (rmM ρ (sh'.length - sh.length) (tot sh' - tot sh)) (PcM D as sh h) (QcM D v sh' h') (sh'.length - sh.length) (tot sh' - tot sh) (fun q => D.2.2.2.1 ≤ q) := by
  have hsl : sh.length ≤ sh'.length := by rw [hs', List.length_append]; omega
  have hst : tot sh ≤ tot sh' := by rw [hs', tot_app]; omega
  refine Met.ofWF (ym_plain k hk) rfl ?_
  intro p e s m args below meth c s₁ B hml hv
  obtain ⟨rfl, hKT, hCW, hok⟩ := hv
  have hts := atoms_spec (ws := wsM k) B.pre
  have hown := findClass_of_methodNamed B.named
  rw [(ym_cls k hk).1] at hown
  have hlocks : meth.locks = false := B.notSynchronized
  have X : FX p s m (as.map (rv D)).toArray meth c D k := ⟨⟨B.exec, B.bytes, hml⟩, ⟨hown, fun w hw hg => hts w (List.mem_cons_of_mem _ (TG_of hw hg))⟩, fun hi => (name_of_methodNamed B.named B.method).1.trans (ym_ini k hk hi).1, hKT⟩
  have hr := B.returns
  rw [kin_ok k hk] at hr
  rw [lg_entry_eq]
  refine ih ρ k 0 (ent k as) [] sh h v sh' h' hW hk p e _ s m _ below meth c _ sh.length (tot sh) s.heap _ [] 0 0 X ⟨Nat.le_refl _, Nat.le_refl _⟩ ⟨?_, ?_⟩ ⟨ent_LR hok hl, (fun x hx => by cases hx), hCW⟩ va_S.rf (by omega) (by omega) ?_
  · show sh'.length ≤ sh.length + (sh'.length - sh.length)
    omega
  · show tot sh' ≤ tot sh + (tot sh' - tot sh)
    omega
  intro pc2 ls2 H2 locs2 cells2 slots2 ri st2 hd hri hC2 hok2 hF2 hc2 ht2
  obtain rfl : cells2 = sh'.length - sh.length := by omega
  obtain rfl : slots2 = tot sh' - tot sh := by omega
  rcases hri with ⟨rfl, a, rfl, rfl, hkk⟩ | ⟨rfl, a, rfl, rfl, hkk⟩ | ⟨rfl, a, rfl, rfl, hkk⟩ | ⟨rfl, rfl, rfl, hkk⟩
  · rcases hkk with hkk | ⟨hkk, ha⟩
    · rw [hkk] at hr
      exact W.zret B.exec B.bytes hr rfl (fun t ht hw => ⟨rfl, by rw [ht]; exact hC2, hF2.F ht, hok2⟩) hF2.2.2 hd
    · rw [hkk] at hr
      refine W.zret B.exec B.bytes hr ?_ (fun t ht hw => ⟨rfl, by rw [ht]; exact hC2, hF2.F ht, hok2⟩) hF2.2.2 hd
      rcases ha with rfl | rfl <;> rfl
  · rw [hkk] at hr
    exact W.lret B.exec B.bytes hr (fun t ht hw => ⟨rfl, by rw [ht]; exact hC2, hF2.F ht, hok2⟩) hF2.2.2 hd
  · rw [hkk] at hr
    refine W.aret B.exec B.bytes hr (Or.inl ⟨_, rfl⟩) ?_ (fun t ht hw => ⟨rfl, by rw [ht]; exact hC2, hF2.F ht, hok2⟩) hF2.2.2 hd
    rw [rv_vr_kept]
    split
    · exact Or.inl rfl
    · exact Or.inr ⟨_, rfl⟩
  · rw [hkk] at hr
    exact W.vret B.exec B.bytes hr (fun t ht hw => ⟨rfl, by rw [ht]; exact hC2, hF2.F ht, hok2⟩) hF2.2.2 hd
theorem rcv_inv {k : Nat} {sh : SH} {as : List aV} (hs : isS k = false) (h : rcv k sh as) : ∃ a as2, as = vr a :: as2 ∧ (kd sh a).1 = 10 + ocl k := by
  unfold rcv at h
  rw [hs] at h
  match as, h with
  | .inr (.inr (.inl a)) :: as2, h => exact ⟨a, as2, rfl, h⟩
theorem rk_rm {k ρ ρ' mc ms : Nat} {R : Room} (hr : ρ' < ρ) (hR : ρ + 1 ≤ R.frames ∧ (ρ + 1) * 200 ≤ R.locals) (hm : mxl k ≤ 150) : (rmM ρ' mc ms).frames + 1 ≤ R.frames ∧ 8 + (mxl k + 11) + (rmM ρ' mc ms).locals ≤ R.locals := by
  show ρ' + 1 + 1 ≤ R.frames ∧ 8 + (mxl k + 11) + (ρ' + 1) * 200 ≤ R.locals
  omega
theorem mxl_le : ∀ k, k < nM → mxl k ≤ 150 := by decide +kernel
theorem host_0 : cn 10 = "WarnLines" := rfl
set_option maxHeartbeats 8000000 in
set_option maxRecDepth 20000 in
theorem snd_run (l : Launch) (D : sD) : ∀ n, RunOk l D n := by
  intro n
  induction n with
  | zero => intro ρ M pc L st sh h r sh' h' hW; exact hW.elim
  | succ n ih =>
    intro ρ M pc L st sh h r sh' h' hW hM p e R s m args below meth c Q n0 t0 H ls locs cells slots X hRm hroom hR hF hc ht fin
    cases hcd : cod M pc with
    | none => exact absurd hW (Wn_none hcd)
    | some q =>
      obtain ⟨ai, np⟩ := q
      obtain ⟨ri, len, hd, rfl, hl, hi⟩ := chk_at hM hcd
      cases hp : plI ai with
      | true =>
        rw [Wn_stp hcd hp] at hW
        obtain ⟨a, b, c2, x, e2, h1, h2⟩ := stp_PT _ ai _ L st sh h _ hW
        obtain ⟨r2, x2, h3, ⟨-, hs2, -⟩, -⟩ := Wn_pt _ _ _ _ _ _ _ _ _ h1
        refine snd_step X ⟨by omega, by omega⟩ hd hl hi hR hF hc ht (n0 := n0) (t0 := t0) (h2 _ ⟨⟨?_, ?_⟩, fun H1 ls1 locs1 cells1 slots1 hR1 hF1 hc1 ht1 => ih ρ M a b c2 (sh ++ x) e2 r sh' h' h1 hM p e R s m args below meth c Q n0 t0 H1 ls1 locs1 cells1 slots1 X hRm hroom hR1 hF1 hc1 ht1 fin⟩)
        · have := hroom.1
          rw [← hs2, List.length_append] at this
          omega
        · have := hroom.2
          rw [← hs2, tot_app] at this
          omega
      | false =>
        by_cases hk : ∀ k, ai ≠ .invokestatic k
        · have hret : ∃ st2, RetI D M ri r st2 ∧ st.map (rv D) = st2 ∧ (∀ x, r = some x → okv sh.length x) ∧ len = 1 ∧ sh' = sh ∧ h' = h := by
            rw [Wn, hcd] at hW
            cases ai <;> try cases hp
            case invokestatic k => exact absurd rfl (hk k)
            case ireturn =>
              obtain ⟨a, r1, rfl, hW⟩ := sI_inv hW
              obtain ⟨⟨rfl, hkk⟩, rfl, rfl, rfl⟩ := hW
              have hri : ri = .ireturn ∧ len = 1 := by
                cases ri <;> first | cases hi | skip
                all_goals first | exact ⟨rfl, Nat.eq_of_beq_eq_true hl⟩ | (exact absurd (of_decide_eq_true hi) (fun q => nomatch q)) | (simp only [okI, Bool.and_eq_true, decide_eq_true_eq] at hi; exact absurd hi.1 (fun q => nomatch q))
              exact ⟨_, Or.inl ⟨hri.1, a, rfl, rfl, hkk⟩, rfl, fun x hx => by cases hx; exact hR.2.1 _ List.mem_cons_self, hri.2, rfl, rfl⟩
            case lreturn =>
              obtain ⟨a, r1, rfl, hW⟩ := sL_inv hW
              obtain ⟨⟨rfl, hkk⟩, rfl, rfl, rfl⟩ := hW
              have hri : ri = .lreturn ∧ len = 1 := by
                cases ri <;> first | cases hi | skip
                all_goals first | exact ⟨rfl, Nat.eq_of_beq_eq_true hl⟩ | (exact absurd (of_decide_eq_true hi) (fun q => nomatch q)) | (simp only [okI, Bool.and_eq_true, decide_eq_true_eq] at hi; exact absurd hi.1 (fun q => nomatch q))
              exact ⟨_, Or.inr (Or.inl ⟨hri.1, a, rfl, rfl, hkk⟩), rfl, fun x hx => by cases hx; exact hR.2.1 _ List.mem_cons_self, hri.2, rfl, rfl⟩
            case areturn =>
              obtain ⟨a, r1, rfl, hW⟩ := sR_inv hW
              obtain ⟨⟨rfl, hkk⟩, rfl, rfl, rfl⟩ := hW
              have hri : ri = .areturn ∧ len = 1 := by
                cases ri <;> first | cases hi | skip
                all_goals first | exact ⟨rfl, Nat.eq_of_beq_eq_true hl⟩ | (exact absurd (of_decide_eq_true hi) (fun q => nomatch q)) | (simp only [okI, Bool.and_eq_true, decide_eq_true_eq] at hi; exact absurd hi.1 (fun q => nomatch q))
              exact ⟨_, Or.inr (Or.inr (Or.inl ⟨hri.1, a, rfl, rfl, hkk⟩)), rfl, fun x hx => by cases hx; exact hR.2.1 _ List.mem_cons_self, hri.2, rfl, rfl⟩
            case return_ =>
              obtain ⟨⟨rfl, hkk⟩, rfl, rfl, rfl⟩ := hW
              have hri : ri = .return_ ∧ len = 1 := by
                cases ri <;> first | cases hi | skip
                all_goals first | exact ⟨rfl, Nat.eq_of_beq_eq_true hl⟩ | (exact absurd (of_decide_eq_true hi) (fun q => nomatch q)) | (simp only [okI, Bool.and_eq_true, decide_eq_true_eq] at hi; exact absurd hi.1 (fun q => nomatch q))
              exact ⟨_, Or.inr (Or.inr (Or.inr ⟨hri.1, rfl, rfl, hkk⟩)), rfl, (fun x hx => by cases hx), hri.2, rfl, rfl⟩
          obtain ⟨st2, hri, hst2, hok, rfl, rfl, rfl⟩ := hret
          rw [hst2]
          exact fin pc ls H locs cells slots ri st2 hd hri hR.2.2 hok hF hc ht
        · obtain ⟨k, rfl⟩ : ∃ k, ai = .invokestatic k := Classical.byContradiction fun z => hk fun k e => z ⟨k, e⟩
          rw [Wn_call hcd] at hW
          cases htk : tak (nar k) st [] with
          | none => rw [htk] at hW; exact hW.elim
          | some q =>
            obtain ⟨as, rr⟩ := q
            rw [htk] at hW
            dsimp only at hW
            obtain ⟨⟨hrk, hcs, hel, hrcv⟩, hW⟩ := hW
            obtain ⟨v, x1, h1, q1, q2⟩ := Wn_pt _ _ _ _ _ _ _ _ _ hW
            have hWc := q2 n (fun a b c => a = v ∧ b = sh ++ x1 ∧ c = h1) (Nat.le_refl _) ⟨rfl, rfl, rfl⟩
            obtain ⟨r2, x2, h2, ⟨-, hs2, -⟩, -⟩ := Wn_pt _ _ _ _ _ _ _ _ _ q1
            obtain ⟨ys, hys, has, hyl⟩ := tak_spec _ _ _ _ _ htk
            rw [List.append_nil] at has
            have hS := hR.2.1
            rw [hys] at hS
            have hSr : ∀ x ∈ rr, okv sh.length x := fun x hx => hS x (List.mem_append_right _ hx)
            have hSa : ∀ x ∈ as, okv sh.length x := fun x hx => hS x (List.mem_append_left _ (by rw [has] at hx; exact List.mem_reverse.mp hx))
            have hstk : st.map (rv D) = (as.map (rv D)).reverse ++ rr.map (rv D) := by rw [hys, has, List.map_append, List.map_reverse, List.reverse_reverse]
            have hsum := csum_rv (D := D) hSr
            have hlr := hroom.1
            have htr := hroom.2
            rw [← hs2, List.length_append, List.length_append] at hlr
            rw [← hs2, tot_app, tot_app] at htr
            have hsx : (sh ++ x1).length = sh.length + x1.length := List.length_append
            have htx : tot (sh ++ x1) = tot sh + tot x1 := tot_app
            have key : k < nM → k ≠ 247 → len = 3 → (∀ (Q1 : State → Prop), Met l (ym k) (wsM k) (rmM (rk k as) ((sh ++ x1).length - sh.length) (tot (sh ++ x1) - tot sh)) (PcM D as sh h) (QcM D v (sh ++ x1) h1) ((sh ++ x1).length - sh.length) (tot (sh ++ x1) - tot sh) (fun q => D.2.2.2.1 ≤ q) → va_Run p l e R s m args below meth c H locs cells slots ((sh ++ x1).length - sh.length) (tot (sh ++ x1) - tot sh) (F0 m pc ls (st.map (rv D))) (rr.map (rv D)) (QcM D v (sh ++ x1) h1 (as.map (rv D)).toArray) (fun q => D.2.2.2.1 ≤ q)) → W p l e R s m args below meth c H locs cells slots Q (F0 m pc ls (st.map (rv D))) := by
              intro hkM hk7 hln hrun
              subst hln
              refine call_on (hrun Q (met_of ih hkM rfl hel hWc)) hF fun H1 locs1 hC1 hF1 hok1 => ?_
              rw [← psh_map]
              refine ih ρ M _ L (psh v rr) (sh ++ x1) h1 r sh' h' q1 hM p e R s m args below meth c Q n0 t0 H1 ls locs1 _ _ X hRm hroom ⟨hR.1.mono (by omega), ?_, hC1⟩ hF1 (by omega) (by omega) fin
              intro x hx
              cases v with
              | none => exact (hSr x hx).mono (by omega)
              | some w =>
                rcases List.mem_cons.mp hx with rfl | hx
                · exact hok1 _ rfl
                · exact (hSr x hx).mono (by omega)
            obtain ⟨⟨hx, hbc, hml⟩, ⟨hown, hts⟩, -, hKT⟩ := id X
            have htT : ∀ w ∈ TG, w.before args s = true := fun w hw => hts w (List.mem_filter.mp hw).1 (List.mem_filter.mp hw).2
            have hCF : CallFix p m c (bc M) (mxl M) s args TG (cn (ocl M)) := ⟨hx, hbc, hml, hown, htT⟩
            have hpre : ∀ U : State, U.heap = H → s.WarmedH U.vm → PcM D as sh h (as.map (rv D)).toArray U := fun U hU hw => ⟨rfl, KT_there hKT hR.2.2 hF hU hw, by rw [hU]; exact hR.2.2, hSa⟩
            have hfit : cells + ((sh ++ x1).length - sh.length) ≤ R.cells ∧ slots + (tot (sh ++ x1) - tot sh) ≤ R.slots := by omega
            have hW8 : ∀ st0 : List Value, 2 * (F0 m pc ls st0).monitorRoom + ((rr.map (rv D)).map fun v => v.category).sum ≤ 8 := fun st0 => by
              show 2 * 0 + _ ≤ 8
              rw [hsum]
              omega
            have hsz : (F0 m pc ls (st.map (rv D))).locals.size = mxl M := hR.1.1
            have hrcvI : isS k = false → ∃ a as2, as = vr a :: as2 ∧ (kd sh a).1 = 10 + ocl k := by
              intro hs
              exact rcv_inv hs hrcv
            have hlen : as.length = nar k := by rw [has, List.length_reverse, hyl]
            cases ri <;> try cases hi
            case invokevirtual i =>
              simp only [okI, Bool.and_eq_true, Bool.not_eq_true'] at hi
              obtain ⟨hlk, hkM, hsS, hsN, h247⟩ := hi
              have hkM := Nat.blt_eq.mp hkM
              have hk7 : k ≠ 247 := fun q => by subst q; cases h247
              refine key hkM hk7 (Nat.eq_of_beq_eq_true hl) fun Q1 hMet => ?_
              obtain ⟨a, as2, rfl, hka⟩ := hrcvI hsS
              have hmw := mw_of hkM hk7
              have hsel := hmw.2.2.2.resolve_left (fun q => q.elim (fun q => by rw [hsS] at q; cases q) (fun q => by rw [hsN] at q; cases q))
              have hkin := hmw.2.1
              rw [hsS] at hkin
              have hoc : ocl k < 12 := by
                have : ∀ k, k < nM → isS k = false → ocl k < 12 := by decide +kernel
                exact this k hkM hsS
              obtain ⟨⟨a6, -⟩, -, ⟨cell, q1', q2', q3', -⟩, -⟩ := obj_at hR.2.2 hoc hka
              have hra : rv D (vr a) = .ref (adr D a) := if_neg (by omega)
              have hnr := ym_nar k hkM
              rw [hsS] at hnr
              have hcw : CallW R s args (cn (ocl M)) (cn (ocl k)) i (ym k) (bc k) (mxl k) (rtT k) (wsM k) (rmM (rk k (vr a :: as2)) ((sh ++ x1).length - sh.length) (tot (sh ++ x1) - tot sh)) ((sh ++ x1).length - sh.length) (tot (sh ++ x1) - tot sh) as2.length := by
                refine cwV as2.length htT (fun w hw => ?_) rfl rfl rfl ⟨(ym_cls k hkM).1, (ym_cls k hkM).2.1, (ym_cls k hkM).2.2, ?_⟩ (rk_rm hrk hRm (mxl_le k hkM))
                · unfold wsV at hw
                  rcases List.mem_append.mp hw with hw | hw
                  · simp only [List.mem_cons, List.not_mem_nil, or_false] at hw
                    rcases hw with rfl | rfl | rfl | rfl
                    · exact ⟨TG_of (lnk_word hlk) rfl, Or.inl rfl⟩
                    · exact ⟨TG_of hkin rfl, Or.inl rfl⟩
                    · exact ⟨TG_of hsel rfl, Or.inl rfl⟩
                    · exact ⟨TG_of hmw.2.2.1 rfl, Or.inl rfl⟩
                  · exact wsM_good hkM hk7 w hw
                · cases hpd : parseMethodDescriptor (ym k).desc with
                  | none => rw [hpd] at hnr; cases hnr
                  | some dd =>
                    rw [hpd] at hnr
                    have h9 := Option.some.inj hnr
                    dsimp only [cond] at h9
                    show some dd.parameters.length = some as2.length
                    rw [List.length_cons] at hlen
                    congr 1
                    omega
              have hP : PreV s H (cn (ocl k)) (adr D a) (PcM D (vr a :: as2) sh h) (as2.map (rv D)) := ⟨PcM_blind _ _ _ _, ⟨cell, q1', by rw [q3']; rfl, by rw [q2']; exact (hKT.1 _ hoc).2.1⟩, fun U hU hw => by
                have := hpre U hU hw
                rw [List.map_cons, hra] at this
                exact this⟩
              have hrn := va_runV (e := e) (below := below) (meth := meth) (locs := locs) hCF hMet hcw hP (g := F0 m pc ls (st.map (rv D))) (rest := rr.map (rv D)) rfl (by simp) hsz (by rw [show (F0 m pc ls (st.map (rv D))).stack = st.map (rv D) from rfl, hstk, List.map_cons, hra]; simp) (hW8 _) (by rw [show (F0 m pc ls (st.map (rv D))).pc = pc from rfl]; exact (Nat.eq_of_beq_eq_true hl) ▸ hd) hfit
              rw [← hra] at hrn
              exact hrn
            case invokestatic i =>
              simp only [okI, Bool.and_eq_true, Bool.not_eq_true'] at hi
              obtain ⟨hlk, hkM, hsS, h247⟩ := hi
              have hkM := Nat.blt_eq.mp hkM
              have hk7 : k ≠ 247 := fun q => by subst q; cases h247
              refine key hkM hk7 (Nat.eq_of_beq_eq_true hl) fun Q1 hMet => ?_
              have hmw := mw_of hkM hk7
              have hkin := hmw.2.1
              rw [hsS] at hkin
              have hnr := ym_nar k hkM
              rw [hsS] at hnr
              have hini := hmw.2.2.1
              rw [← (ym_cls k hkM).1] at hini
              have hcw : CallB R s args (cn (ocl M)) i (ym k) (bc k) (mxl k) (rtT k) (wsM k) (rmM (rk k as) ((sh ++ x1).length - sh.length) (tot (sh ++ x1) - tot sh)) ((sh ++ x1).length - sh.length) (tot (sh ++ x1) - tot sh) as.length ∧ (Cond.static (ym k)).before args s = true := by
                refine va_cwS as.length htT (fun w hw => ?_) rfl rfl rfl ⟨(ym_cls k hkM).2.1, (ym_cls k hkM).2.2, ?_⟩ (rk_rm hrk hRm (mxl_le k hkM))
                · unfold va_wsS at hw
                  rcases List.mem_append.mp hw with hw | hw
                  · simp only [List.mem_cons, List.not_mem_nil, or_false] at hw
                    rcases hw with rfl | rfl | rfl
                    · exact ⟨TG_of (lnk_word hlk) rfl, Or.inl rfl⟩
                    · exact ⟨TG_of hkin rfl, Or.inl rfl⟩
                    · exact ⟨TG_of hini rfl, Or.inl rfl⟩
                  · exact wsM_good hkM hk7 w hw
                · cases hpd : parseMethodDescriptor (ym k).desc with
                  | none => rw [hpd] at hnr; cases hnr
                  | some dd =>
                    rw [hpd] at hnr
                    have h9 := Option.some.inj hnr
                    dsimp only [cond] at h9
                    show some dd.parameters.length = some as.length
                    congr 1
                    omega
              exact va_runS hCF hMet hcw ⟨PcM_blind _ _ _ _, hpre⟩ (g := F0 m pc ls (st.map (rv D))) (rest := rr.map (rv D)) rfl (by simp) hsz (by rw [show (F0 m pc ls (st.map (rv D))).stack = st.map (rv D) from rfl, hstk]) (hW8 _) (by rw [show (F0 m pc ls (st.map (rv D))).pc = pc from rfl]; exact (Nat.eq_of_beq_eq_true hl) ▸ hd) hfit
            case invokespecial i =>
              simp only [okI, Bool.and_eq_true, Bool.or_eq_true, Bool.not_eq_true'] at hi
              obtain ⟨hlk, hkM, hsN, h247⟩ := hi
              have hkM := Nat.blt_eq.mp hkM
              have hk7 : k ≠ 247 := fun q => by subst q; cases h247
              refine key hkM hk7 (Nat.eq_of_beq_eq_true hl) fun Q1 hMet => ?_
              obtain ⟨hyn, hrt, hsS⟩ := ym_ini k hkM hsN
              obtain ⟨a, as2, rfl, hka⟩ := hrcvI hsS
              have hmw := mw_of hkM hk7
              have hkin := hmw.2.1
              rw [hsS] at hkin
              have hoc : ocl k < 12 := by
                have : ∀ k, k < nM → isS k = false → ocl k < 12 := by decide +kernel
                exact this k hkM hsS
              obtain ⟨⟨a6, -⟩, -, ⟨cell, q1', q2', q3', -⟩, -⟩ := obj_at hR.2.2 hoc hka
              have hra : rv D (vr a) = .ref (adr D a) := if_neg (by omega)
              have hnr := ym_nar k hkM
              rw [hsS] at hnr
              have hini := hmw.2.2.1
              rw [← (ym_cls k hkM).1] at hini
              have hpd2 : (parseMethodDescriptor (ym k).desc).map (fun d => d.parameters.length) = some as2.length := by
                cases hpd : parseMethodDescriptor (ym k).desc with
                | none => rw [hpd] at hnr; cases hnr
                | some dd =>
                  rw [hpd] at hnr
                  have h9 := Option.some.inj hnr
                  dsimp only [cond] at h9
                  show some dd.parameters.length = some as2.length
                  rw [List.length_cons] at hlen
                  congr 1
                  omega
              have hws : wsM k = Cond.code (ym k) (bc k) (mxl k) none :: TG := by rw [← hrt]; rfl
              have hP : PreS s H (PcM D (vr a :: as2) sh h) (.ref (adr D a) :: as2.map (rv D)) := ⟨PcM_blind _ _ _ _, fun U hU hw => by
                have := hpre U hU hw
                rw [List.map_cons, hra] at this
                exact this⟩
              have hstk2 : (F0 m pc ls (st.map (rv D))).stack = (as2.map (rv D)).reverse ++ .ref (adr D a) :: rr.map (rv D) := by rw [show (F0 m pc ls (st.map (rv D))).stack = st.map (rv D) from rfl, hstk, List.map_cons, hra]; simp
              rcases hlk with hlk | hlk
              · have hcw := cwI (R := R) (s := s) (args := args) (own := cn (ocl M)) (index := i) (rm := rmM (rk k (vr a :: as2)) ((sh ++ x1).length - sh.length) (tot (sh ++ x1) - tot sh)) (mc := (sh ++ x1).length - sh.length) (ms := tot (sh ++ x1) - tot sh) as2.length htT (wsM_good hkM hk7) hws rfl rfl (htT _ (TG_of hini rfl)) (htT _ (TG_of (lnk_word hlk) rfl)) (htT _ (TG_of hkin rfl)) hyn ⟨(ym_cls k hkM).2.1, (ym_cls k hkM).2.2, hpd2⟩ (rk_rm hrk hRm (mxl_le k hkM))
                have hrn := va_runI (e := e) (below := below) (meth := meth) (locs := locs) hCF hMet hcw hP (g := F0 m pc ls (st.map (rv D))) (rest := rr.map (rv D)) rfl (by simp) hsz hstk2 (hW8 _) (by rw [show (F0 m pc ls (st.map (rv D))).pc = pc from rfl]; exact (Nat.eq_of_beq_eq_true hl) ▸ hd) hfit
                rw [← hra] at hrn
                exact hrn
              · have hnw := hKT.2.2.2.2.1 _ (lnk_nest hlk)
                have hcw := va_cnB (R := R) (s := s) (args := args) (own := cn (ocl M)) (index := i) (rm := rmM (rk k (vr a :: as2)) ((sh ++ x1).length - sh.length) (tot (sh ++ x1) - tot sh)) (mc := (sh ++ x1).length - sh.length) (ms := tot (sh ++ x1) - tot sh) as2.length htT (wsM_good hkM hk7) hws rfl rfl hnw (htT _ (TG_of hini rfl)) ⟨(ym_cls k hkM).2.1, (ym_cls k hkM).2.2, hpd2⟩ (rk_rm hrk hRm (mxl_le k hkM))
                have hrn := va_runIN (e := e) (below := below) (meth := meth) (locs := locs) hCF hMet ⟨hcw, hyn, htT _ (TG_of hkin rfl)⟩ hP (g := F0 m pc ls (st.map (rv D))) (rest := rr.map (rv D)) rfl (by simp) hsz hstk2 (hW8 _) (by rw [show (F0 m pc ls (st.map (rv D))).pc = pc from rfl]; exact (Nat.eq_of_beq_eq_true hl) ▸ hd) hfit
                rw [← hra] at hrn
                exact hrn
