-- ===== new cells, and rows moved as one =====
theorem csum_rv {D : sD} {n : Nat} : ∀ {st : List aV}, (∀ v ∈ st, okv n v) → ((st.map (rv D)).map fun v => v.category).sum = csum st
  | [], _ => rfl
  | v :: r, h => by
    have h1 := csum_rv (D := D) (st := r) (fun x hx => h x (List.mem_cons_of_mem _ hx))
    have h2 := h v List.mem_cons_self
    have h3 : (rv D v).category = ctg v := by
      match v, h2 with
      | .inl _, _ => rfl
      | .inr (.inl _), _ => rfl
      | .inr (.inr (.inl a)), _ =>
        unfold rv
        dsimp only
        split <;> rfl
    simp only [List.map_cons, List.sum_cons, csum, h1, h3]
theorem tot_app {sh x : SH} : tot (sh ++ x) = tot sh + tot x := by simp [tot]
theorem new0_lt {h : HP} {n b : Nat} (hb : b < n) : new0 h n b = h b := by
  funext j
  exact if_neg (by omega)
theorem new0_at {h : HP} {n : Nat} {j : Int} : new0 h n n j = 0 := if_pos rfl
theorem nat_i32 (n : Nat) : n.toInt32 = i32 (n : Int) := by
  apply Int32.toInt_inj.mp
  unfold i32
  rw [Int32.toInt_ofInt]
  exact Int32.toInt_ofNat
theorem w_arrI : Cond.arrayClass .int ∈ lw_tbl := by decide +kernel
theorem w_arrJ : Cond.arrayClass .long ∈ lw_tbl := by decide +kernel
theorem w_arrZ : Cond.arrayClass .boolean ∈ lw_tbl := by decide +kernel
section SM
variable {p : Program} {l : Launch} {e : Env} {R : Room} {s : State} {m : MethodId} {args : Array Value} {below : List Frame} {meth : Method} {c : Code} {Q : State → Prop} {D : sD} {M n0 t0 : Nat}
variable {L st r : List aV} {sh : SH} {h : HP} {H : Heap} {ls : Array Slot} {locs : List Loc} {cells slots pc : Nat}
/-- what follows of a cell more -/
theorem SRel.add {st' : List aV} {h' : HP} {H1 : Heap} (hR : SRel D M sh h L st H ls) (hS : ∀ v ∈ st', okv (sh.length + 1) v) {k : Nat × Nat} (hz : H1.size = H.size + 1) (oq : ∀ q : Nat, q < H.size → H1[q]? = H[q]?) (hh : ∀ b, b < sh.length → h' b = h b) (h5 : k.1 ≠ 5) (hc : cellR D (sh.length + 1) h' H1 sh.length k) : SRel D M (sh ++ [k]) h' L st' H1 ls := by
  have hl : (sh ++ [k]).length = sh.length + 1 := by simp
  exact ⟨hl ▸ hR.1.mono (by omega), by rw [hl]; exact hS, hR.2.2.add hz oq hh h5 hc⟩
theorem S_add {H1 : Heap} (hF : va_S (fun q => D.2.2.2.1 ≤ q) s.heap H locs) (hz : H1.size = H.size + 1) (oq : ∀ q : Nat, q < H.size → H1[q]? = H[q]?) : va_S (fun q => D.2.2.2.1 ≤ q) s.heap H1 locs :=
  ⟨Nat.le_trans hF.1 (by omega), fun x h1 h2 => (oq x (Nat.lt_of_lt_of_le h1 hF.1)).trans (hF.2.1 x h1 h2), hF.2.2⟩
theorem sn_new (X : FX p s m args meth c D M) (hR : SRel D M sh h L st H ls) (hF : va_S (fun q => D.2.2.2.1 ≤ q) s.heap H locs) (hc : cells + n0 = sh.length) (ht : slots + t0 = tot sh) {i ci : Nat} (hci : ci < 12) (hcl : clk (ocl M) i ci = true) (hd : decode (bc M) pc = .ok (.new i, 3))
    (kk : KK p l e R s m args below meth c Q D M n0 t0 (pc + 3) L (vr sh.length :: st) (sh ++ [(10 + ci, nF ci)]) (new0 h sh.length)) : W p l e R s m args below meth c H locs cells slots Q (F0 m pc ls (st.map (rv D))) := by
  obtain ⟨⟨hx, hb, -⟩, ⟨hown, hts⟩, -, hKT⟩ := id X
  have hKn := hKT.1 ci hci
  obtain ⟨q, hq, hqc⟩ := iws_all ci hci
  subst hqc
  have hw := iws_ok q hq
  have h6 := hR.2.2.1.1
  have hl : (sh ++ [(10 + q.1, nF q.1)]).length = sh.length + 1 := by simp
  have ht1 : tot (sh ++ [(10 + q.1, nF q.1)]) = tot sh + nF q.1 := by rw [tot_app]; simp [tot]
  have hcn : cnX q.1 = cn q.1 := by
    unfold cnX
    split
    · omega
    · omega
    · rfl
  have hcw := clk_word hcl
  rw [hcn] at hcw
  refine W.newcK hx hb hown (hts _ hcw rfl) (hts _ (List.mem_of_getElem? hw.1) rfl) (hts _ (List.mem_of_getElem? hw.2) rfl) rfl hd (by have := kk.1.1; rw [hl] at this; omega) (by have := kk.1.2; rw [ht1] at this; omega) hKn.2.1 rfl fun H1 kC hkC e1 z1 o1 => ?_
  have ha : rv D (vr sh.length) = .ref H.size := by
    rw [hR.2.2.1.2]
    exact (if_neg (by omega)).trans (congrArg Value.ref (adr_ge h6))
  have had : adr D sh.length = H.size := by rw [hR.2.2.1.2]; exact adr_ge h6
  have hk2 := kk.2 H1 ls locs (cells + 1) (slots + nF q.1) (hR.add (fun v hv => by
      rcases List.mem_cons.mp hv with rfl | hv
      · exact Nat.lt_succ_self _
      · exact (hR.2.1 v hv).mono (Nat.le_succ _)) z1 o1 (fun b hb => new0_lt hb) (by show 10 + q.1 ≠ 5; omega) ⟨(fun z => by dsimp only at z; omega), (fun z => by dsimp only at z; omega), (fun z => by dsimp only at z; omega), (fun z => by dsimp only at z; omega), fun c2 z => by
        obtain rfl : c2 = q.1 := by dsimp only at z; omega
        refine ⟨hci, ?_, fun j hj => ?_⟩
        · rw [had]
          refine (u_born (tT q.1) (X.lays hci) (fun _ h => h) hKn hkC e1 (tT_ok q.1 hci)).to fun j hj => ?_
          have hfk := fkb_get hci hj
          unfold fkb at hfk
          unfold fV
          rw [new0_at]
          split at hfk
          · rename_i zk
            rw [zk]
            simp only [Bool.and_eq_true, decide_eq_true_eq] at hfk
            rw [hfk.1]
            rfl
          · rename_i zk
            rw [zk]
            simp only [Bool.and_eq_true, decide_eq_true_eq] at hfk
            rw [hfk.1]
            rfl
          · rename_i zk
            rw [zk]
            simp only [Bool.and_eq_true] at hfk
            show defaultValue _ = rv D (vr 0)
            revert hfk
            generalize tT q.1 j = ty
            cases ty <;> intro hfk <;> first | rfl | cases hfk.1
          · rename_i zk
            rw [zk]
            simp only [Bool.and_eq_true] at hfk
            show defaultValue _ = rv D (vr 0)
            revert hfk
            generalize tT q.1 j = ty
            cases ty <;> intro hfk <;> first | rfl | cases hfk.1
          · cases hfk
        · unfold fR
          rw [new0_at]
          split
          · unfold R32; decide
          · unfold R64; decide
          · omega⟩) (S_add hF z1 o1) (by rw [hl]; omega) (by rw [ht1]; omega)
  rw [List.map_cons, ha] at hk2
  exact hk2
theorem sn_newa {n : Int} (X : FX p s m args meth c D M) (hR : SRel D M sh h L (vi n :: r) H ls) (hF : va_S (fun q => D.2.2.2.1 ≤ q) s.heap H locs) (hc : cells + n0 = sh.length) (ht : slots + t0 = tot sh) {t : ArrayType} {k : Nat} (hk : (t = .int ∧ k = 0) ∨ (t = .long ∧ k = 1) ∨ (t = .boolean ∧ k = 2)) (hn : 0 ≤ n ∧ n ≤ 10000) (hd : decode (bc M) pc = .ok (.newarray t, 2))
    (kk : KK p l e R s m args below meth c Q D M n0 t0 (pc + 2) L (vr sh.length :: r) (sh ++ [(k, n.toNat)]) (new0 h sh.length)) : W p l e R s m args below meth c H locs cells slots Q (F0 m pc ls ((vi n :: r).map (rv D))) := by
  obtain ⟨⟨hx, hb, -⟩, ⟨hown, hts⟩, -, hKT⟩ := id X
  have hn32 : R32 n := by unfold R32; omega
  have h6 := hR.2.2.1.1
  have hl : (sh ++ [(k, n.toNat)]).length = sh.length + 1 := by simp
  have ht1 : tot (sh ++ [(k, n.toNat)]) = tot sh + n.toNat := by rw [tot_app]; simp [tot]
  have had : adr D sh.length = H.size := by rw [hR.2.2.1.2]; exact adr_ge h6
  have ha : rv D (vr sh.length) = .ref H.size := by rw [← had]; exact if_neg (by omega)
  have hwd : (Cond.arrayClass (newarray.typeOf t)).before args s = true ∧ newarray.typeOf t = tyA k ∧ componentBytes (newarray.typeOf t) ≤ 8 ∧ k < 7 ∧ k ≠ 5 := by
    rcases hk with ⟨rfl, rfl⟩ | ⟨rfl, rfl⟩ | ⟨rfl, rfl⟩
    · exact ⟨hts _ w_arrI rfl, rfl, by decide, by decide, by decide⟩
    · exact ⟨hts _ w_arrJ rfl, rfl, by decide, by decide, by decide⟩
    · exact ⟨hts _ w_arrZ rfl, rfl, by decide, by decide, by decide⟩
  obtain ⟨w1, w2, w3, w4, w5⟩ := hwd
  show W p l e R s m args below meth c H locs cells slots Q (F0 m pc ls (.int (i32 n) :: r.map (rv D)))
  refine va_newaK hx hb w1 rfl hd rfl (fun q => by have := (i32_lt hn32 R32_0).mp q; omega) (i32_cl hn32) (by have := Nat.mul_le_mul (show n.toNat ≤ 10000 by omega) w3; omega) (by have := kk.1.1; rw [hl] at this; omega) (by have := kk.1.2; rw [ht1] at this; omega) rfl fun H1 cA e1 z1 o1 hAr hNm => ?_
  have hcA : cA = D.2.2.1 k := by
    have h7 := (hKT.2.1 k w4 w5).2
    rw [← w2] at h7
    rcases hk with ⟨rfl, rfl⟩ | ⟨rfl, rfl⟩ | ⟨rfl, rfl⟩ <;> exact Option.some.inj (hNm.symm.trans h7)
  subst hcA
  have hk2 := kk.2 H1 ls locs (cells + 1) (slots + n.toNat) (hR.add (fun v hv => by
      rcases List.mem_cons.mp hv with rfl | hv
      · exact Nat.lt_succ_self _
      · exact (hR.2.1 v (List.mem_cons_of_mem _ hv)).mono (Nat.le_succ _)) z1 o1 (fun b hb => new0_lt hb) w5 (by
      rcases hk with ⟨rfl, rfl⟩ | ⟨rfl, rfl⟩ | ⟨rfl, rfl⟩
      · refine ⟨fun _ => ⟨?_, fun j hj => by rw [new0_at]; exact R32_0⟩, (fun z => by cases z), (fun z => by cases z), (fun z => by dsimp only at z; omega), (fun c2 z => by dsimp only at z; omega)⟩
        rw [had, e1]
        simp only [new0_at]
        rfl
      · refine ⟨(fun z => by cases z), fun _ => ⟨?_, fun j hj => by rw [new0_at]; unfold R64; decide⟩, (fun z => by cases z), (fun z => by dsimp only at z; omega), (fun c2 z => by dsimp only at z; omega)⟩
        rw [had, e1]
        simp only [new0_at]
        rfl
      · refine ⟨(fun z => by cases z), (fun z => by cases z), fun _ => ⟨?_, fun j hj => by rw [new0_at]; exact Or.inl rfl⟩, (fun z => by dsimp only at z; omega), (fun c2 z => by dsimp only at z; omega)⟩
        rw [had, e1]
        simp only [new0_at]
        rfl)) (S_add hF z1 o1) (by rw [hl]; omega) (by rw [ht1]; omega)
  rw [List.map_cons, ha] at hk2
  exact hk2
theorem sn_anew {n : Int} (X : FX p s m args meth c D M) (hR : SRel D M sh h L (vi n :: r) H ls) (hF : va_S (fun q => D.2.2.2.1 ≤ q) s.heap H locs) (hc : cells + n0 = sh.length) (ht : slots + t0 = tot sh) {i ci k : Nat} (hk : (ci = 6 ∧ k = 3) ∨ (ci = 7 ∧ k = 6)) (hcl : clk (ocl M) i ci = true) (hn : 0 ≤ n ∧ n ≤ 10000) (hd : decode (bc M) pc = .ok (.anewarray i, 3))
    (kk : KK p l e R s m args below meth c Q D M n0 t0 (pc + 3) L (vr sh.length :: r) (sh ++ [(k, n.toNat)]) (new0 h sh.length)) : W p l e R s m args below meth c H locs cells slots Q (F0 m pc ls ((vi n :: r).map (rv D))) := by
  obtain ⟨⟨hx, hb, -⟩, ⟨hown, hts⟩, -, hKT⟩ := id X
  have hn32 : R32 n := by unfold R32; omega
  have h6 := hR.2.2.1.1
  have hl : (sh ++ [(k, n.toNat)]).length = sh.length + 1 := by simp
  have ht1 : tot (sh ++ [(k, n.toNat)]) = tot sh + n.toNat := by rw [tot_app]; simp [tot]
  have had : adr D sh.length = H.size := by rw [hR.2.2.1.2]; exact adr_ge h6
  have ha : rv D (vr sh.length) = .ref H.size := by rw [← had]; exact if_neg (by omega)
  have key : ∀ C : String, va_AO C s → cnX ci = C → tyA k = .object C → k < 7 ∧ k ≠ 5 → W p l e R s m args below meth c H locs cells slots Q (F0 m pc ls (.int (i32 n) :: r.map (rv D))) := by
    intro C hAO hC hty hk7
    have hcw := clk_word hcl
    rw [hC] at hcw
    refine W.anew hx hb hown (hts _ hcw rfl) (va_AO.use hAO) rfl hd rfl (fun q => by have := (i32_lt hn32 R32_0).mp q; omega) (by rw [i32_cl hn32]; omega) (by have := kk.1.1; rw [hl] at this; omega) (by have := kk.1.2; rw [ht1] at this; rw [i32_cl hn32]; omega) fun cA kA comp f1 f2 f3 f4 => ?_
    rw [i32_cl hn32]
    generalize hH1 : H.push ({ cls := cA, slots := Array.replicate n.toNat .null, vm := .none } : Cell) = H1
    have z1 : H1.size = H.size + 1 := by rw [← hH1, Array.size_push]
    have e1 : H1[H.size]? = some (arrV cA n.toNat (fun _ => .null)) := by rw [← hH1, Array.getElem?_push_size, ← arrV_new]
    have o1 : ∀ q : Nat, q < H.size → H1[q]? = H[q]? := fun q hq => by rw [← hH1, Array.getElem?_push, if_neg (Nat.ne_of_lt hq)]
    have hcA : cA = D.2.2.1 k := by
      have h7 := (hKT.2.1 k hk7.1 hk7.2).2
      rw [hty] at h7
      obtain ⟨_, _, _, _, _, h8⟩ := h7
      exact Option.some.inj (f1.symm.trans h8)
    subst hcA
    have hk2 := kk.2 H1 ls locs (cells + 1) (slots + n.toNat) (hR.add (fun v hv => by
        rcases List.mem_cons.mp hv with rfl | hv
        · exact Nat.lt_succ_self _
        · exact (hR.2.1 v (List.mem_cons_of_mem _ hv)).mono (Nat.le_succ _)) z1 o1 (fun b hb => new0_lt hb) hk7.2 ⟨(fun z => by dsimp only at z; omega), (fun z => by dsimp only at z; omega), (fun z => by dsimp only at z; omega), fun _ => ⟨by
          rw [had, e1]
          simp only [new0_at]
          rfl, fun j hj => by rw [new0_at]; omega⟩, (fun c2 z => by dsimp only at z; omega)⟩) (S_add hF z1 o1) (by rw [hl]; omega) (by rw [ht1]; omega)
    rw [List.map_cons, ha] at hk2
    exact hk2
  rcases hk with ⟨rfl, rfl⟩ | ⟨rfl, rfl⟩
  · exact key "WarnLines$RuleText" hKT.2.2.2.2.2.1.2.1 rfl rfl (by decide)
  · exact key "WarnLines$Sheet" hKT.2.2.2.2.2.1.2.2.1 rfl rfl (by decide)
theorem sn_aast (X : FX p s m args meth c D M) (hR : SRel D M sh h L st H ls) (hF : va_S (fun q => D.2.2.2.1 ≤ q) s.heap H locs) {a v : Nat} {i : Int} (hi : R32 i) (hr : ∀ x ∈ r, okv sh.length x) (hk : (((kd sh a).1 = 3 ∧ (kd sh v).1 = 16) ∨ ((kd sh a).1 = 6 ∧ (kd sh v).1 = 17)) ∧ 0 ≤ i ∧ i < (kd sh a).2) (hd : decode (bc M) pc = .ok (.aastore, 1))
    (kk : ∀ H1 locs1, SRel D M sh (upd2 h a i v) L r H1 ls → va_S (fun q => D.2.2.2.1 ≤ q) s.heap H1 locs1 → W p l e R s m args below meth c H1 locs1 cells slots Q (F0 m (pc + 1) ls (r.map (rv D)))) : W p l e R s m args below meth c H locs cells slots Q (F0 m pc ls ((vr v :: vi i :: vr a :: r).map (rv D))) := by
  obtain ⟨⟨hx, hb, -⟩, -, -, hKT⟩ := id X
  obtain ⟨hk1, h0, h1⟩ := hk
  obtain ⟨h6, hl⟩ := hR.2.2.num (a := a) (by omega) (by omega)
  obtain ⟨g1, g2⟩ := (hR.2.2.cell (a := a) (by omega) (by omega)).2.2.2.1 (by omega)
  have key : ∀ (ci : Nat) (C : String), ci < 12 → (kd sh v).1 = 10 + ci → cn ci = C → tyA (kd sh a).1 = .object C → W p l e R s m args below meth c H locs cells slots Q (F0 m pc ls ((vr v :: vi i :: vr a :: r).map (rv D))) := by
    intro ci C hci hkv hC hty
    obtain ⟨⟨v6, vl⟩, -, ⟨cellV, q1, q2, q3, q4⟩, -⟩ := obj_at hR.2.2 hci hkv
    obtain ⟨hS, hcls⟩ := hKT.1 _ hci
    obtain ⟨hAr, hRA⟩ := hKT.2.1 (kd sh a).1 (by omega) (by omega)
    rw [hty] at hRA
    obtain ⟨kA, comp, k1, k2, k3, -⟩ := hRA
    have hcomp : comp = D.1 ci := by rw [← hC] at k3; exact Option.some.inj (k3.symm.trans hcls.1)
    subst hcomp
    obtain ⟨kC, hkC, -⟩ := id hcls.2
    show W p l e R s m args below meth c H locs cells slots Q (F0 m pc ls (rv D (vr v) :: .int (i32 i) :: rv D (vr a) :: r.map (rv D)))
    rw [show rv D (vr a) = .ref (adr D a) from if_neg (by omega), show rv D (vr v) = .ref (adr D v) from if_neg (by omega)]
    refine W.aast hx hb g1 (fun q h => by cases h) (fun h => by cases h) k1 k2 rfl hkC ⟨fun q => by have := (i32_lt hi R32_0).mp q; omega, by rw [arrV_size, i32_cl hi]; omega⟩ q1 (fun q h => by rw [q3] at h; cases h) (by rw [q2]; exact hkC) (by rw [q2]; exact va_assign hcls) rfl rfl hd fun H1 e z oq => ?_
    have hg : rv D (vr ((v : Int).toNat)) = .ref (adr D v) := by rw [Int.toNat_natCast]; exact if_neg (by omega)
    rw [arrV_store, i32_cl hi, ← hg, ← arr_updI (g := fun x => rv D (vr x.toNat)) h0] at e
    refine kk H1 _ ⟨hR.1, hr, hR.2.2.upd h6 z oq (fun b hb => upd2_ne hb) fun _ => ⟨fun q => by omega, fun q => by omega, fun q => by omega, fun q => ⟨e, fun j hj => ?_⟩, fun c2 q => by omega⟩⟩ (hF.put z oq (by rw [adr_ge h6]; omega))
    by_cases ej : (j : Int) = i
    · rw [ej, upd2_s]; omega
    · rw [upd2_o ej]; exact g2 j hj
  rcases hk1 with ⟨ka, kv⟩ | ⟨ka, kv⟩
  · exact key 6 _ (by decide) kv rfl (by rw [ka]; rfl)
  · exact key 7 _ (by decide) kv rfl (by rw [ka]; rfl)
theorem stat_at (X : FX p s m args meth c D M) (hW : CW D sh h H) (hF : va_S (fun q => D.2.2.2.1 ≤ q) s.heap H locs) {a : Nat} (hk : (kd sh a).1 = 5) : (1 ≤ a ∧ a < 6) ∧ ∃ cell : Cell, H[D.2.2.2.2 a]? = some cell ∧ s.isArrayOf cell .int ∧ cell.vm ≠ .unknown ∧ (a < 5 → cell.vm.isStatics = false ∧ s.vm.findClass "[I" = some cell.cls) ∧ cell.slots.size = (kd sh a).2 ∧ (kd sh a).2 < 2147483648 ∧ ∀ j : Nat, j < (kd sh a).2 → cell.slots[j]? = some (.int (i32 (h a j))) ∧ R32 (h a j) := by
  have h5 : 1 ≤ a ∧ a < 6 := by
    rcases Nat.lt_or_ge a 6 with q | q
    · rcases Nat.eq_zero_or_pos a with z | z
      · subst z
        have := hW.2.2.2
        omega
      · exact ⟨z, q⟩
    · by_cases q2 : a < sh.length
      · exact absurd hk (hW.2.1 a q q2).1
      · rw [kd_out (by omega)] at hk
        cases hk
  obtain ⟨g0, g2, cell, g3, g4, g5⟩ := hW.2.2.1 a h5.1 h5.2
  obtain ⟨cell0, e1, e2, e3, e6⟩ := X.2.2.2.2.2.2.1 a h5.1 h5.2
  have e4 := hF.2.1 _ (Array.getElem?_eq_some_iff.mp e1).1 (by omega)
  rw [e1, g3] at e4
  cases e4
  exact ⟨h5, cell, g3, e2, e3, e6, g4, g0.2, g5⟩
theorem sn_alen (X : FX p s m args meth c D M) (hR : SRel D M sh h L st H ls) (hF : va_S (fun q => D.2.2.2.1 ≤ q) s.heap H locs) {a : Nat} (hk : (kd sh a).1 = 5) (hd : decode (bc M) pc = .ok (.arraylength, 1))
    (kk : okv sh.length (vi (kd sh a).2) → W p l e R s m args below meth c H locs cells slots Q (F0 m (pc + 1) ls ((vi (kd sh a).2 :: r).map (rv D)))) : W p l e R s m args below meth c H locs cells slots Q (F0 m pc ls ((vr a :: r).map (rv D))) := by
  obtain ⟨⟨hx, hb, -⟩, -, -, hKT⟩ := id X
  obtain ⟨h5, cell, g3, e2, e3, -, g4, g5, -⟩ := stat_at X hR.2.2 hF hk
  show W p l e R s m args below meth c H locs cells slots Q (F0 m pc ls (rv D (vr a) :: r.map (rv D)))
  rw [show rv D (vr a) = .ref (adr D a) from if_neg (by omega), adr_lt h5.2]
  exact W.alen hx hb g3 e2 (by rw [g4]; exact nat_i32 _) rfl rfl hd (kk ⟨by omega, by omega⟩)
theorem sn_gets (X : FX p s m args meth c D M) (hR : SRel D M sh h L st H ls) (hF : va_S (fun q => D.2.2.2.1 ≤ q) s.heap H locs) {j i : Nat} (hj : 1 ≤ j ∧ j ≤ 4) (hfl : flk (ocl M) i 99 j = true) (hd : decode (bc M) pc = .ok (.getstatic i, 3))
    (kk : W p l e R s m args below meth c H locs cells slots Q (F0 m (pc + 3) ls ((vr j :: st).map (rv D)))) : W p l e R s m args below meth c H locs cells slots Q (F0 m pc ls (st.map (rv D))) := by
  obtain ⟨⟨hx, hb, -⟩, ⟨hown, hts⟩, -, hKT⟩ := id X
  have hZ := hKT.2.2.1 j hj.1 (by omega)
  have ha : rv D (vr j) = .ref (D.2.2.2.2 j) := (if_neg (by omega)).trans (congrArg Value.ref (adr_lt (by omega)))
  rw [List.map_cons, ha] at kk
  exact va_gets hx hb hZ hF hown (hts _ (stk_word hfl) rfl) (fun _ h => h) hd kk
end SM
