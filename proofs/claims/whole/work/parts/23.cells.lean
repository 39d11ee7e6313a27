-- ===== fields, rows and new cells of both machines =====
theorem arr_updI {g : Int → Value} {h : HP} {a : Nat} {i v : Int} (h0 : 0 ≤ i) : (fun j : Nat => g (upd2 h a i v a j)) = updV (fun j : Nat => g (h a j)) i.toNat (g v) := by
  funext j
  unfold upd2 updV
  by_cases e : j = i.toNat
  · rw [if_pos e, if_pos ⟨rfl, by omega⟩]
  · rw [if_neg e, if_neg (fun q => e (by have := q.2; omega))]
theorem upd2_ne {h : HP} {a b : Nat} {i v : Int} (hb : b ≠ a) : upd2 h a i v b = h b := by
  funext j
  exact if_neg (fun q => hb q.1)
theorem upd2_o {h : HP} {a : Nat} {i j v : Int} (hj : j ≠ i) : upd2 h a i v a j = h a j := if_neg (fun q => hj q.2)
theorem upd2_s {h : HP} {a : Nat} {i v : Int} : upd2 h a i v a i = v := if_pos ⟨rfl, rfl⟩
theorem fkb_get {c j : Nat} (hc : c < 12) (hj : j < nF c) : fkb c j = true := fkd_ok c hc j hj
section SC
variable {p : Program} {l : Launch} {e : Env} {R : Room} {s : State} {m : MethodId} {args : Array Value} {below : List Frame} {meth : Method} {c : Code} {Q : State → Prop} {D : sD} {M n0 t0 : Nat}
variable {L st r : List aV} {sh : SH} {h : HP} {H : Heap} {ls : Array Slot} {locs : List Loc} {cells slots pc : Nat}
theorem sn_getf (X : FX p s m args meth c D M) (hR : SRel D M sh h L st H ls) {a k idx : Nat} {v : aV} (hci : k / 64 < 12) (hj : k % 64 < nF (k / 64)) (hfl : flk (ocl M) idx (k / 64) (k % 64) = true) (hk : (kd sh a).1 = 10 + k / 64) (hd : decode (bc M) pc = .ok (.getfield idx, 3)) (hv : fV D h (k / 64) a (k % 64) = rv D v)
    (kk : W p l e R s m args below meth c H locs cells slots Q (F0 m (pc + 3) ls ((v :: r).map (rv D)))) : W p l e R s m args below meth c H locs cells slots Q (F0 m pc ls ((vr a :: r).map (rv D))) := by
  obtain ⟨⟨hx, hb, -⟩, ⟨hown, hts⟩, -, hKT⟩ := id X
  obtain ⟨⟨h6, hl⟩, -, ⟨cell, q1, q2, q3, q4⟩, -⟩ := obj_at hR.2.2 hci hk
  obtain ⟨hS, hfc, kC, hkC, hkind⟩ := hKT.1 _ hci
  obtain ⟨cf, kf, fi, f, hi, hsl⟩ := hS _ hj
  have hst := (u_facts hfc hkC (u_lays (X.lays hci) (fun _ h => h) hj) hi).1
  have ha : rv D (vr a) = .ref (adr D a) := if_neg (by omega)
  rw [fT_own _ hci _ hj] at hi
  show W p l e R s m args below meth c H locs cells slots Q (F0 m pc ls (rv D (vr a) :: r.map (rv D)))
  rw [ha]
  refine W.getf hx hb hown (hts _ (flk_word hfl hci) rfl) hi hst q1 (by rw [q3]; exact fun h => by cases h) (v := rv D v) ?_ rfl rfl hd kk
  rw [hsl, q4 _ hj]
  exact congrArg some hv
theorem fld_apart (X : FX p s m args meth c D M) {ci : Nat} (hci : ci < 12) : ∀ x y, x < nF ci → y < nF ci → x ≠ y → (D.2.1 ci) x ≠ (D.2.1 ci) y := by
  intro x y hx hy hne
  obtain ⟨hS, -⟩ := X.2.2.2.1 ci hci
  obtain ⟨_, _, _, fa, hia, ea⟩ := hS x hx
  obtain ⟨_, _, _, fb, hib, eb⟩ := hS y hy
  rw [← ea, ← eb]
  refine u_apart (u_lays (X.lays hci) (fun _ h => h) hx) (u_lays (X.lays hci) (fun _ h => h) hy) hia hib ?_
  rw [(State.fieldFound?_type hia (tT_ok ci hci x hx)).1, (State.fieldFound?_type hib (tT_ok ci hci y hy)).1]
  exact fT_nm ci hci x hx y hy hne
theorem obj_upd {a ci j : Nat} {x : Int} {v : Value} (X : FX p s m args meth c D M) (hW : CW D sh h H) (hci : ci < 12) (hj : j < nF ci) (hk : (kd sh a).1 = 10 + ci) (hnew : fV D (upd2 h a j x) ci a j = v) (hfr : fR sh.length ci j x) {cell : Cell} (q4 : ∀ k, k < nF ci → cell.slots[(D.2.1 ci) k]? = some (fV D h ci a k)) (q2 : cell.cls = D.1 ci) (q3 : cell.vm = .none) {H1 : Heap} (e1 : H1[adr D a]? = some (cell.setSlot ((D.2.1 ci) j) v)) (e2 : H1.size = H.size) (e3 : ∀ q : Nat, q ≠ adr D a → H1[q]? = H[q]?) : CW D sh (upd2 h a j x) H1 := by
  obtain ⟨⟨h6, hl⟩, -, -, g3⟩ := obj_at hW hci hk
  refine hW.upd h6 e2 e3 (fun b hb => upd2_ne hb) fun _ => ⟨fun q => ?_, fun q => ?_, fun q => ?_, fun q => ?_, fun c2 q => ?_⟩
  · omega
  · omega
  · omega
  · omega
  · obtain rfl : c2 = ci := by omega
    refine ⟨hci, t_OB.to (V := updV (fun k => fV D h c2 a k) j v) ⟨_, e1, q2, q3, t_set q4 (fld_apart X hci) hj v⟩ (fun k hk => ?_), fun k hk => ?_⟩
    · unfold updV
      by_cases e : k = j
      · subst e
        rw [if_pos rfl, hnew]
      · rw [if_neg e]
        unfold fV
        rw [upd2_o (by omega)]
    · by_cases e : k = j
      · subst e
        rw [upd2_s]
        exact hfr
      · rw [upd2_o (by omega)]
        exact g3 k hk
theorem sn_putf (X : FX p s m args meth c D M) (hR : SRel D M sh h L st H ls) (hF : va_S (fun q => D.2.2.2.1 ≤ q) s.heap H locs) {a k idx : Nat} {v : aV} {x : Int} (hci : k / 64 < 12) (hj : k % 64 < nF (k / 64)) (hfl : flk (ocl M) idx (k / 64) (k % 64) = true) (hk : (kd sh a).1 = 10 + k / 64) (hd : decode (bc M) pc = .ok (.putfield idx, 3)) (hnew : fV D (upd2 h a (k % 64 : Nat) x) (k / 64) a (k % 64) = rv D v) (hfr : fR sh.length (k / 64) (k % 64) x) (hn : narrow (tT (k / 64) (k % 64)) (rv D v) = rv D v) (hft : fits (tT (k / 64) (k % 64)) (rv D v) = true) (hfin : (fT (k / 64) (k % 64)).2.2.2 = false ∨ (isN M = true ∧ k / 64 = ocl M))
    (hr : ∀ x ∈ r, okv sh.length x) (kk : ∀ H1 locs1, SRel D M sh (upd2 h a (k % 64 : Nat) x) L r H1 ls → va_S (fun q => D.2.2.2.1 ≤ q) s.heap H1 locs1 → W p l e R s m args below meth c H1 locs1 cells slots Q (F0 m (pc + 3) ls (r.map (rv D)))) : W p l e R s m args below meth c H locs cells slots Q (F0 m pc ls ((v :: vr a :: r).map (rv D))) := by
  obtain ⟨⟨hx, hb, -⟩, ⟨hown, hts⟩, hin, hKT⟩ := id X
  obtain ⟨⟨h6, hl⟩, -, ⟨cell, q1, q2, q3, q4⟩, -⟩ := obj_at hR.2.2 hci hk
  obtain ⟨hS, hfc, kC, hkC, hkind⟩ := hKT.1 _ hci
  obtain ⟨cf, kf, fi, f, hi, hsl⟩ := hS _ hj
  have hst := (u_facts hfc hkC (u_lays (X.lays hci) (fun _ h => h) hj) hi).1
  have ha : rv D (vr a) = .ref (adr D a) := if_neg (by omega)
  have hlay := X.lays hci _ (u_in_lay hj)
  have hi' := hi
  rw [fT_own _ hci _ hj] at hi'
  have hAa : D.2.2.2.1 ≤ adr D a := by rw [adr_ge h6]; omega
  show W p l e R s m args below meth c H locs cells slots Q (F0 m pc ls (rv D v :: rv D (vr a) :: r.map (rv D)))
  rw [ha]
  by_cases hfin0 : (fT (k / 64) (k % 64)).2.2.2 = false
  · unfold u_lay at hlay
    rw [if_neg (by rw [hfin0]; decide)] at hlay
    have h7 := u_store hfc hkC hkind hlay hi (tT_ok _ hci _ hj) hn hft
    refine W.putK hx hb (f := f) ⟨hown, hts _ (flk_word hfl hci) rfl, ⟨_, _, _, hi'⟩, hst⟩ (by rw [q2]; exact h7) q1 q3 (by rw [hsl]; exact k2_hasslot (q4 _ hj)) rfl rfl hd fun H' e1 e2 e3 => ?_
    rw [hsl] at e1
    exact kk H' _ ⟨hR.1, hr, obj_upd X hR.2.2 hci hj hk hnew hfr q4 q2 q3 e1 e2 e3⟩ (hF.put e2 e3 hAa)
  · have hfin1 : (fT (k / 64) (k % 64)).2.2.2 = true := by
      cases z : (fT (k / 64) (k % 64)).2.2.2 with
      | true => rfl
      | false => exact absurd z hfin0
    obtain ⟨hiN, ho⟩ := hfin.resolve_left hfin0
    unfold u_lay at hlay
    rw [if_pos hfin1] at hlay
    have hcf : m.cls = cf := by
      obtain ⟨_, _, c', _, _, _, -, -, hf', -, -, -, hown2, -⟩ := Cond.laysFinal_spec hlay
      have e1 : c' = cf := by have := hi.symm.trans hf'; simp at this; exact this.1.symm
      rw [fT_own _ hci _ hj, ho] at hown2
      rw [← e1]; exact Option.some.inj (hown.symm.trans hown2)
    have h7 := u_fits hfc hkC hkind (Or.inr hlay) hi (tT_ok _ hci _ hj) hn hft
    refine W.putFinK hx hb hown (hts _ (flk_word hfl hci) rfl) hi' hst hcf (hin hiN) (by rw [q2]; exact h7) q1 q3 (by rw [hsl]; exact k2_hasslot (q4 _ hj)) rfl rfl hd fun H' e1 e2 e3 => ?_
    rw [hsl] at e1
    exact kk H' _ ⟨hR.1, hr, obj_upd X hR.2.2 hci hj hk hnew hfr q4 q2 q3 e1 e2 e3⟩ (hF.put e2 e3 hAa)
theorem ref_of (hR : SRel D M sh h L st H ls) {a : Nat} (h6 : 6 ≤ a) : rv D (vr a) = .ref (adr D a) := if_neg (by omega)
theorem sn_iald (X : FX p s m args meth c D M) (hR : SRel D M sh h L st H ls) (hF : va_S (fun q => D.2.2.2.1 ≤ q) s.heap H locs) {a : Nat} {i : Int} (hi : R32 i) (hk : ((kd sh a).1 = 0 ∨ (kd sh a).1 = 5) ∧ 0 ≤ i ∧ i < (kd sh a).2) (hd : decode (bc M) pc = .ok (.iaload, 1))
    (kk : okv sh.length (vi (h a i)) → W p l e R s m args below meth c H locs cells slots Q (F0 m (pc + 1) ls ((vi (h a i) :: r).map (rv D)))) : W p l e R s m args below meth c H locs cells slots Q (F0 m pc ls ((vi i :: vr a :: r).map (rv D))) := by
  obtain ⟨⟨hx, hb, -⟩, -, -, hKT⟩ := id X
  obtain ⟨hk1, h0, h1⟩ := hk
  have hij : ((i.toNat : Nat) : Int) = i := by omega
  show W p l e R s m args below meth c H locs cells slots Q (F0 m pc ls (.int (i32 i) :: rv D (vr a) :: r.map (rv D)))
  rcases hk1 with hk1 | hk1
  · obtain ⟨h6, hl⟩ := hR.2.2.num (a := a) (by omega) (by omega)
    obtain ⟨g1, g2⟩ := (hR.2.2.cell (a := a) (by omega) (by omega)).1 hk1
    rw [show rv D (vr a) = .ref (adr D a) from if_neg (by omega)]
    refine W.iald (v := .int (i32 (h a i))) hx hb g1 ((hKT.2.1 0 (by decide) (by decide)).1 _ _) (fun q => by cases q) (by rw [arrV_size]; exact i32_in hi h0 h1) ?_ rfl rfl hd (kk ?_)
    · rw [i32_cl hi, arrV_read _ _ (by omega), hij]
    · have := g2 i.toNat (by omega)
      rwa [hij] at this
  · have h5 : 1 ≤ a ∧ a < 6 := by
      rcases Nat.lt_or_ge a 6 with q | q
      · rcases Nat.eq_zero_or_pos a with z | z
        · subst z
          have := hR.2.2.2.2.2
          omega
        · exact ⟨z, q⟩
      · by_cases q2 : a < sh.length
        · exact absurd hk1 (hR.2.2.2.1 a q q2).1
        · rw [kd_out (by omega)] at hk1
          cases hk1
    obtain ⟨-, g2, cell, g3, g4, g5⟩ := hR.2.2.2.2.1 a h5.1 h5.2
    obtain ⟨cell0, e1, e2, e3, -⟩ := hKT.2.2.2.1 a h5.1 h5.2
    have e4 := hF.2.1 _ (Array.getElem?_eq_some_iff.mp e1).1 (by omega)
    rw [e1, g3] at e4
    cases e4
    have hij := g5 i.toNat (by omega)
    rw [show ((i.toNat : Nat) : Int) = i by omega] at hij
    rw [show rv D (vr a) = .ref (adr D a) from if_neg (by omega), adr_lt h5.2]
    refine W.iald (v := .int (i32 (h a i))) hx hb g3 e2 e3 (by rw [g4]; exact i32_in hi h0 h1) ?_ rfl rfl hd (kk hij.2)
    rw [i32_cl hi]
    exact hij.1
theorem sn_lald (X : FX p s m args meth c D M) (hR : SRel D M sh h L st H ls) {a : Nat} {i : Int} (hi : R32 i) (hk : (kd sh a).1 = 1 ∧ 0 ≤ i ∧ i < (kd sh a).2) (hd : decode (bc M) pc = .ok (.laload, 1))
    (kk : okv sh.length (vl (h a i)) → W p l e R s m args below meth c H locs cells slots Q (F0 m (pc + 1) ls ((vl (h a i) :: r).map (rv D)))) : W p l e R s m args below meth c H locs cells slots Q (F0 m pc ls ((vi i :: vr a :: r).map (rv D))) := by
  obtain ⟨⟨hx, hb, -⟩, -, -, hKT⟩ := id X
  obtain ⟨hk1, h0, h1⟩ := hk
  have hij : ((i.toNat : Nat) : Int) = i := by omega
  obtain ⟨h6, hl⟩ := hR.2.2.num (a := a) (by omega) (by omega)
  obtain ⟨g1, g2⟩ := (hR.2.2.cell (a := a) (by omega) (by omega)).2.1 hk1
  show W p l e R s m args below meth c H locs cells slots Q (F0 m pc ls (.int (i32 i) :: rv D (vr a) :: r.map (rv D)))
  rw [show rv D (vr a) = .ref (adr D a) from if_neg (by omega)]
  refine W.lald (v := .long (i64 (h a i))) hx hb g1 ((hKT.2.1 1 (by decide) (by decide)).1 _ _) (fun q => by cases q) (by rw [arrV_size]; exact i32_in hi h0 h1) ?_ rfl rfl hd (kk ?_)
  · rw [i32_cl hi, arrV_read _ _ (by omega), hij]
  · have := g2 i.toNat (by omega)
    rwa [hij] at this
theorem sn_zald (X : FX p s m args meth c D M) (hR : SRel D M sh h L st H ls) {a : Nat} {i : Int} (hi : R32 i) (hk : (kd sh a).1 = 2 ∧ 0 ≤ i ∧ i < (kd sh a).2) (hd : decode (bc M) pc = .ok (.baload, 1))
    (kk : okv sh.length (vi (h a i)) → W p l e R s m args below meth c H locs cells slots Q (F0 m (pc + 1) ls ((vi (h a i) :: r).map (rv D)))) : W p l e R s m args below meth c H locs cells slots Q (F0 m pc ls ((vi i :: vr a :: r).map (rv D))) := by
  obtain ⟨⟨hx, hb, -⟩, -, -, hKT⟩ := id X
  obtain ⟨hk1, h0, h1⟩ := hk
  have hij : ((i.toNat : Nat) : Int) = i := by omega
  obtain ⟨h6, hl⟩ := hR.2.2.num (a := a) (by omega) (by omega)
  obtain ⟨g1, g2⟩ := (hR.2.2.cell (a := a) (by omega) (by omega)).2.2.1 hk1
  show W p l e R s m args below meth c H locs cells slots Q (F0 m pc ls (.int (i32 i) :: rv D (vr a) :: r.map (rv D)))
  rw [show rv D (vr a) = .ref (adr D a) from if_neg (by omega)]
  refine W.zald (v := .int (i32 (h a i))) hx hb g1 ((hKT.2.1 2 (by decide) (by decide)).1 _ _) (fun q => by cases q) (by rw [arrV_size]; exact i32_in hi h0 h1) ?_ rfl rfl hd (kk ?_)
  · rw [i32_cl hi, arrV_read _ _ (by omega), hij]
  · have := g2 i.toNat (by omega)
    rw [hij] at this
    show R32 _
    unfold R32
    omega
theorem sn_aald (X : FX p s m args meth c D M) (hR : SRel D M sh h L st H ls) {a : Nat} {i : Int} (hi : R32 i) (hk : ((kd sh a).1 = 3 ∨ (kd sh a).1 = 4 ∨ (kd sh a).1 = 6) ∧ 0 ≤ i ∧ i < (kd sh a).2) (hd : decode (bc M) pc = .ok (.aaload, 1))
    (kk : okv sh.length (vr (h a i).toNat) → W p l e R s m args below meth c H locs cells slots Q (F0 m (pc + 1) ls ((vr (h a i).toNat :: r).map (rv D)))) : W p l e R s m args below meth c H locs cells slots Q (F0 m pc ls ((vi i :: vr a :: r).map (rv D))) := by
  obtain ⟨⟨hx, hb, -⟩, -, -, hKT⟩ := id X
  obtain ⟨hk1, h0, h1⟩ := hk
  have hij : ((i.toNat : Nat) : Int) = i := by omega
  obtain ⟨h6, hl⟩ := hR.2.2.num (a := a) (by omega) (by omega)
  obtain ⟨g1, g2⟩ := (hR.2.2.cell (a := a) (by omega) (by omega)).2.2.2.1 hk1
  have hty : (tyA (kd sh a).1).isReference = true := by
    rcases hk1 with q | q | q <;> rw [q] <;> rfl
  show W p l e R s m args below meth c H locs cells slots Q (F0 m pc ls (.int (i32 i) :: rv D (vr a) :: r.map (rv D)))
  rw [show rv D (vr a) = .ref (adr D a) from if_neg (by omega)]
  refine W.aald (v := rv D (vr (h a i).toNat)) hx hb g1 ((hKT.2.1 (kd sh a).1 (by omega) (by omega)).1 _ _) hty (fun q => by cases q) (by rw [arrV_size]; exact i32_in hi h0 h1) ?_ rfl rfl hd (kk ?_)
  · rw [i32_cl hi, arrV_read _ _ (by omega), hij]
  · have := g2 i.toNat (by omega)
    rw [hij] at this
    show (h a i).toNat < sh.length
    omega
theorem sn_iast (X : FX p s m args meth c D M) (hR : SRel D M sh h L st H ls) (hF : va_S (fun q => D.2.2.2.1 ≤ q) s.heap H locs) {a : Nat} {i v : Int} (hi : R32 i) (hv : R32 v) (hr : ∀ x ∈ r, okv sh.length x) (hk : (kd sh a).1 = 0 ∧ 0 ≤ i ∧ i < (kd sh a).2) (hd : decode (bc M) pc = .ok (.iastore, 1))
    (kk : ∀ H1 locs1, SRel D M sh (upd2 h a i v) L r H1 ls → va_S (fun q => D.2.2.2.1 ≤ q) s.heap H1 locs1 → W p l e R s m args below meth c H1 locs1 cells slots Q (F0 m (pc + 1) ls (r.map (rv D)))) : W p l e R s m args below meth c H locs cells slots Q (F0 m pc ls ((vi v :: vi i :: vr a :: r).map (rv D))) := by
  obtain ⟨⟨hx, hb, -⟩, -, -, hKT⟩ := id X
  obtain ⟨hk1, h0, h1⟩ := hk
  obtain ⟨h6, hl⟩ := hR.2.2.num (a := a) (by omega) (by omega)
  obtain ⟨g1, g2⟩ := (hR.2.2.cell (a := a) (by omega) (by omega)).1 hk1
  show W p l e R s m args below meth c H locs cells slots Q (F0 m pc ls (.int (i32 v) :: .int (i32 i) :: rv D (vr a) :: r.map (rv D)))
  rw [show rv D (vr a) = .ref (adr D a) from if_neg (by omega)]
  refine W.iast hx hb g1 ((hKT.2.1 0 (by decide) (by decide)).1 _ _) (fun q => by cases q) (by rw [arrV_size]; exact i32_in hi h0 h1) rfl rfl hd fun H1 e z oq => ?_
  rw [arrV_store, i32_cl hi, ← arr_updI (g := fun x => .int (i32 x)) h0] at e
  refine kk H1 _ ⟨hR.1, hr, hR.2.2.upd h6 z oq (fun b hb => upd2_ne hb) fun _ => ⟨fun q => ⟨e, fun j hj => ?_⟩, fun q => by omega, fun q => by omega, fun q => by omega, fun c2 q => by omega⟩⟩ (hF.put z oq (by rw [adr_ge h6]; omega))
  by_cases ej : (j : Int) = i
  · rw [ej, upd2_s]; exact hv
  · rw [upd2_o ej]; exact g2 j hj
theorem sn_last (X : FX p s m args meth c D M) (hR : SRel D M sh h L st H ls) (hF : va_S (fun q => D.2.2.2.1 ≤ q) s.heap H locs) {a : Nat} {i v : Int} (hi : R32 i) (hv : R64 v) (hr : ∀ x ∈ r, okv sh.length x) (hk : (kd sh a).1 = 1 ∧ 0 ≤ i ∧ i < (kd sh a).2) (hd : decode (bc M) pc = .ok (.lastore, 1))
    (kk : ∀ H1 locs1, SRel D M sh (upd2 h a i v) L r H1 ls → va_S (fun q => D.2.2.2.1 ≤ q) s.heap H1 locs1 → W p l e R s m args below meth c H1 locs1 cells slots Q (F0 m (pc + 1) ls (r.map (rv D)))) : W p l e R s m args below meth c H locs cells slots Q (F0 m pc ls ((vl v :: vi i :: vr a :: r).map (rv D))) := by
  obtain ⟨⟨hx, hb, -⟩, -, -, hKT⟩ := id X
  obtain ⟨hk1, h0, h1⟩ := hk
  obtain ⟨h6, hl⟩ := hR.2.2.num (a := a) (by omega) (by omega)
  obtain ⟨g1, g2⟩ := (hR.2.2.cell (a := a) (by omega) (by omega)).2.1 hk1
  show W p l e R s m args below meth c H locs cells slots Q (F0 m pc ls (.long (i64 v) :: .int (i32 i) :: rv D (vr a) :: r.map (rv D)))
  rw [show rv D (vr a) = .ref (adr D a) from if_neg (by omega)]
  refine W.last hx hb g1 ((hKT.2.1 1 (by decide) (by decide)).1 _ _) (fun q => by cases q) (by rw [arrV_size]; exact i32_in hi h0 h1) rfl rfl hd fun H1 e z oq => ?_
  rw [arrV_store, i32_cl hi, ← arr_updI (g := fun x => .long (i64 x)) h0] at e
  refine kk H1 _ ⟨hR.1, hr, hR.2.2.upd h6 z oq (fun b hb => upd2_ne hb) fun _ => ⟨fun q => by omega, fun q => ⟨e, fun j hj => ?_⟩, fun q => by omega, fun q => by omega, fun c2 q => by omega⟩⟩ (hF.put z oq (by rw [adr_ge h6]; omega))
  by_cases ej : (j : Int) = i
  · rw [ej, upd2_s]; exact hv
  · rw [upd2_o ej]; exact g2 j hj
theorem sn_zast (X : FX p s m args meth c D M) (hR : SRel D M sh h L st H ls) (hF : va_S (fun q => D.2.2.2.1 ≤ q) s.heap H locs) {a : Nat} {i v : Int} (hi : R32 i) (hr : ∀ x ∈ r, okv sh.length x) (hk : (kd sh a).1 = 2 ∧ 0 ≤ i ∧ i < (kd sh a).2 ∧ (v = 0 ∨ v = 1)) (hd : decode (bc M) pc = .ok (.bastore, 1))
    (kk : ∀ H1 locs1, SRel D M sh (upd2 h a i v) L r H1 ls → va_S (fun q => D.2.2.2.1 ≤ q) s.heap H1 locs1 → W p l e R s m args below meth c H1 locs1 cells slots Q (F0 m (pc + 1) ls (r.map (rv D)))) : W p l e R s m args below meth c H locs cells slots Q (F0 m pc ls ((vi v :: vi i :: vr a :: r).map (rv D))) := by
  obtain ⟨⟨hx, hb, -⟩, -, -, hKT⟩ := id X
  obtain ⟨hk1, h0, h1, hv⟩ := hk
  obtain ⟨h6, hl⟩ := hR.2.2.num (a := a) (by omega) (by omega)
  obtain ⟨g1, g2⟩ := (hR.2.2.cell (a := a) (by omega) (by omega)).2.2.1 hk1
  show W p l e R s m args below meth c H locs cells slots Q (F0 m pc ls (.int (i32 v) :: .int (i32 i) :: rv D (vr a) :: r.map (rv D)))
  rw [show rv D (vr a) = .ref (adr D a) from if_neg (by omega)]
  refine W.zast hx hb g1 ((hKT.2.1 2 (by decide) (by decide)).1 _ _) (fun q => by cases q) (by rw [arrV_size]; exact i32_in hi h0 h1) rfl rfl hd fun H1 e z oq => ?_
  have hnv : narrow .boolean (.int (i32 v)) = .int (i32 v) := by
    rcases hv with rfl | rfl <;> rfl
  rw [hnv, arrV_store, i32_cl hi, ← arr_updI (g := fun x => .int (i32 x)) h0] at e
  refine kk H1 _ ⟨hR.1, hr, hR.2.2.upd h6 z oq (fun b hb => upd2_ne hb) fun _ => ⟨fun q => by omega, fun q => by omega, fun q => ⟨e, fun j hj => ?_⟩, fun q => by omega, fun c2 q => by omega⟩⟩ (hF.put z oq (by rw [adr_ge h6]; omega))
  by_cases ej : (j : Int) = i
  · rw [ej, upd2_s]; exact hv
  · rw [upd2_o ej]; exact g2 j hj
end SC
