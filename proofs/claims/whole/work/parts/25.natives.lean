-- ===== clone, arraycopy, the cast, Object's own maker =====
theorem cpyH_o {h : HP} {b a x : Nat} {i j n : Int} (hx : x ≠ b) : cpyH h b j a i n x = h x := by
  funext y
  exact if_neg (fun q => hx q.1)
section SX
variable {p : Program} {l : Launch} {e : Env} {R : Room} {s : State} {m : MethodId} {args : Array Value} {below : List Frame} {meth : Method} {c : Code} {Q : State → Prop} {D : sD} {M n0 t0 : Nat}
variable {L st r : List aV} {sh : SH} {h : HP} {H : Heap} {ls : Array Slot} {locs : List Loc} {cells slots pc : Nat}
theorem sn_init {a : Nat} (X : FX p s m args meth c D M) (hR : SRel D M sh h L (vr a :: r) H ls) {i : Nat} (hk : lnk (ocl M) i 4 0 = true) (hcs : csum r ≤ 8) (hrm : 1 ≤ R.frames ∧ 60 ≤ R.locals) (hd : decode (bc M) pc = .ok (.invokespecial i, 3)) (ha : 1 ≤ a)
    (kk : W p l e R s m args below meth c H locs cells slots Q (F0 m (pc + 3) ls (r.map (rv D)))) : W p l e R s m args below meth c H locs cells slots Q (F0 m pc ls ((vr a :: r).map (rv D))) := by
  obtain ⟨⟨hx, hb, hml⟩, ⟨hown, hts⟩, -, hKT⟩ := id X
  have hsum := csum_rv (D := D) (st := r) (fun v hv => hR.2.1 v (List.mem_cons_of_mem _ hv))
  show W p l e R s m args below meth c H locs cells slots Q (F0 m pc ls (rv D (vr a) :: r.map (rv D)))
  rw [show rv D (vr a) = .ref (adr D a) from if_neg (by omega)]
  refine W.objInit hx hb hown (hts _ (lnk_word hk) rfl) (hts _ (by decide +kernel) rfl) (hts _ (by decide +kernel) rfl) (g := F0 m pc ls (.ref (adr D a) :: r.map (rv D))) rfl (hR.1.1.trans hml.symm) rfl hd hrm.1 ?_ kk
  show 2 * 0 + ((r.map (rv D)).map fun v => v.category).sum + 12 ≤ R.locals
  omega
theorem sn_cast {a : Nat} (X : FX p s m args meth c D M) (hR : SRel D M sh h L (vr a :: r) H ls) {i : Nat} (hk : clk (ocl M) i 98 = true) (ha : (kd sh a).1 = 0 ∧ 6 ≤ a) (hd : decode (bc M) pc = .ok (.checkcast i, 3))
    (kk : W p l e R s m args below meth c H locs cells slots Q (F0 m (pc + 3) ls ((vr a :: r).map (rv D)))) : W p l e R s m args below meth c H locs cells slots Q (F0 m pc ls ((vr a :: r).map (rv D))) := by
  obtain ⟨⟨hx, hb, hml⟩, ⟨hown, hts⟩, -, hKT⟩ := id X
  have g1 := ((hR.2.2.cell (a := a) (by omega) (by omega)).1 ha.1).1
  have hra : rv D (vr a) = .ref (adr D a) := if_neg (by omega)
  rw [List.map_cons, hra] at kk ⊢
  refine va_castA (D := (D.1, D.2.1)) (cl := []) (ws := [(adr D a, .inl (D.2.2.1 0, ((kd sh a).2, .inl (fun j => i32 (h a j)))))]) hx hb hown (hts _ (clk_word hk) rfl) (fun k q hq => ?_) 0 rfl (hKT.2.1 0 (by decide) (by decide)).2 hd kk
  have hz : k < 1 := (List.getElem?_eq_some_iff.mp hq).1
  rw [show k = 0 by omega] at hq
  cases hq
  exact g1
theorem sn_clone {a : Nat} (X : FX p s m args meth c D M) (hR : SRel D M sh h L (vr a :: r) H ls) (hF : va_S (fun q => D.2.2.2.1 ≤ q) s.heap H locs) (hc : cells + n0 = sh.length) (ht : slots + t0 = tot sh) {i : Nat} (hk : lnk (ocl M) i 5 0 = true) (ha4 : a ≤ 4) (ha : (kd sh a).1 = 5) (hcs : csum r ≤ 8) (hrm : 1 ≤ R.frames ∧ 60 ≤ R.locals) (hd : decode (bc M) pc = .ok (.invokevirtual i, 3))
    (kk : KK p l e R s m args below meth c Q D M n0 t0 (pc + 3) L (vr sh.length :: r) (sh ++ [(0, (kd sh a).2)]) (cloH (new0 h sh.length) sh.length a)) : W p l e R s m args below meth c H locs cells slots Q (F0 m pc ls ((vr a :: r).map (rv D))) := by
  obtain ⟨⟨hx, hb, hml⟩, ⟨hown, hts⟩, -, hKT⟩ := id X
  obtain ⟨h5, cell, g3, e2, e3, g67, g4, g5, g8⟩ := stat_at X hR.2.2 hF ha
  obtain ⟨g6, g7⟩ := g67 (by omega)
  have hsum := csum_rv (D := D) (st := r) (fun v hv => hR.2.1 v (List.mem_cons_of_mem _ hv))
  have h6 := hR.2.2.1.1
  have hl : (sh ++ [(0, (kd sh a).2)]).length = sh.length + 1 := by simp
  have ht1 : tot (sh ++ [(0, (kd sh a).2)]) = tot sh + (kd sh a).2 := by rw [tot_app]; simp [tot]
  have had : adr D sh.length = H.size := by rw [hR.2.2.1.2]; exact adr_ge h6
  have hrn : rv D (vr sh.length) = .ref H.size := by rw [← had]; exact if_neg (by omega)
  have hra : rv D (vr a) = .ref (D.2.2.2.2 a) := (if_neg (by omega)).trans (congrArg Value.ref (adr_lt h5.2))
  obtain ⟨c0, t0', f1, f2, f3⟩ := hKT.2.2.2.2.2.1.1
  cases g7.symm.trans f1
  obtain ⟨hA, hRA⟩ := hKT.2.1 0 (by decide) (by decide)
  have hcI : cell.cls = D.2.2.1 0 := Option.some.inj (g7.symm.trans hRA)
  obtain ⟨-, kS, hkS, compS, hkindS⟩ := hA 0 (fun _ => .null)
  show W p l e R s m args below meth c H locs cells slots Q (F0 m pc ls (rv D (vr a) :: r.map (rv D)))
  rw [hra]
  intro T hT XX
  obtain ⟨k', hk', he⟩ := XX.warmed.alike.2.2 _ _ hkS
  obtain ⟨vm', X', st⟩ := XX.cloneArray hx hown (hts _ (lnk_word hk) rfl) (hts _ (by decide +kernel) rfl) (hts _ (by decide +kernel) rfl) (hts _ (by decide +kernel) rfl) (hts _ (by decide +kernel) rfl) (a := D.2.2.2.2 a) (cell := cell) (by rw [hT]; exact g3) (fun k q => by rw [q] at g6; cases g6) e3 g7 f2 f3
    (fun i v hv => by
      have hi : i < (kd sh a).2 := by rw [← g4]; exact (Array.getElem?_eq_some_iff.mp hv).1
      rw [(g8 i hi).1] at hv
      cases hv
      rw [hcI]
      have hk2 : T.vm.classes[D.2.2.1 0]? = some k' := hk'
      have hkind : k'.kind = .array compS .int := by rw [he]; exact hkindS
      simp [State.fitsSlot, State.slotType?, hk2, hkind, fits])
    (g := F0 m pc ls (.ref (D.2.2.2.2 a) :: r.map (rv D))) rfl (hR.1.1.trans hml.symm) rfl (by rw [hb]; exact hd) hrm.1 (by show 2 * 0 + ((r.map (rv D)).map fun v => v.category).sum + 14 ≤ _; omega) (by have := kk.1.1; rw [hl] at this; omega) (by have := kk.1.2; rw [ht1] at this; rw [g4]; omega) (hloader := by rw [hcI]; exact Vm.clonesLoader_of_array hkS hkindS)
  have hcellE : ({ cls := cell.cls, slots := cell.slots } : Cell) = arrV (D.2.2.1 0) (kd sh a).2 (fun j => .int (i32 (cloH (new0 h sh.length) sh.length a sh.length j))) := by
    have hsl : cell.slots = Array.ofFn (n := (kd sh a).2) (fun j => Value.int (i32 (cloH (new0 h sh.length) sh.length a sh.length (j.val : Int)))) := by
      apply Array.ext_getElem?
      intro j
      by_cases hj : j < (kd sh a).2
      · rw [(g8 j hj).1, Array.getElem?_ofFn, dif_pos hj]
        unfold cloH
        rw [if_pos rfl, new0_lt (show a < sh.length by omega)]
      · rw [Array.getElem?_eq_none (by omega), Array.getElem?_eq_none (by rw [Array.size_ofFn]; omega)]
    rw [hcI, hsl]
    rfl
  rw [hcellE, g4] at X'
  rw [hcellE] at st
  generalize hcl : arrV (D.2.2.1 0) (kd sh a).2 (fun j => .int (i32 (cloH (new0 h sh.length) sh.length a sh.length j))) = nc at X' st
  generalize hH1 : H.push nc = H1
  have z1 : H1.size = H.size + 1 := by rw [← hH1, Array.size_push]
  have e1 : H1[H.size]? = some nc := by rw [← hH1, Array.getElem?_push_size]
  have o1 : ∀ q : Nat, q < H.size → H1[q]? = H[q]? := fun q hq => by rw [← hH1, Array.getElem?_push, if_neg (Nat.ne_of_lt hq)]
  have hk2 := kk.2 H1 ls locs (cells + 1) (slots + (kd sh a).2) (hR.add (fun v hv => by
      rcases List.mem_cons.mp hv with rfl | hv
      · exact Nat.lt_succ_self _
      · exact (hR.2.1 v (List.mem_cons_of_mem _ hv)).mono (Nat.le_succ _)) z1 o1 (fun b hb => by
      funext y
      unfold cloH
      rw [if_neg (by omega), new0_lt hb]) (by show (0 : Nat) ≠ 5; omega) ⟨fun _ => ⟨by rw [had, e1, ← hcl], fun j hj => by
        unfold cloH
        rw [if_pos rfl, new0_lt (show a < sh.length by omega)]
        exact (g8 j hj).2⟩, (fun z => by cases z), (fun z => by cases z), (fun z => by dsimp only at z; omega), (fun c2 z => by dsimp only at z; omega)⟩) (S_add hF z1 o1) (by rw [hl]; omega) (by rw [ht1]; omega)
  rw [List.map_cons, hrn] at hk2
  obtain ⟨t, b1, b2⟩ := hk2 ((T.setVm vm').pushCell nc) (by rw [← hH1, ← hT]; rfl) X'
  refine ⟨t, st t ?_, b2⟩
  rw [hT]
  exact b1
theorem sn_copy (X : FX p s m args meth c D M) {n j i : Int} {b a : Nat} (hR : SRel D M sh h L (vi n :: vi j :: vr b :: vi i :: vr a :: r) H ls) (hF : va_S (fun q => D.2.2.2.1 ≤ q) s.heap H locs) {ix : Nat} (hk : lnk (ocl M) ix 6 0 = true) (hg : (kd sh a).1 = 0 ∧ (kd sh b).1 = 0 ∧ 0 ≤ n ∧ 0 ≤ i ∧ 0 ≤ j ∧ i + n ≤ (kd sh a).2 ∧ j + n ≤ (kd sh b).2 ∧ csum r ≤ 8) (hrm : 1 ≤ R.frames ∧ 60 ≤ R.locals) (hd : decode (bc M) pc = .ok (.invokestatic ix, 3))
    (kk : ∀ H1 locs1, SRel D M sh (cpyH h b j a i n) L r H1 ls → va_S (fun q => D.2.2.2.1 ≤ q) s.heap H1 locs1 → W p l e R s m args below meth c H1 locs1 cells slots Q (F0 m (pc + 3) ls (r.map (rv D)))) : W p l e R s m args below meth c H locs cells slots Q (F0 m pc ls ((vi n :: vi j :: vr b :: vi i :: vr a :: r).map (rv D))) := by
  obtain ⟨⟨hx, hb, hml⟩, ⟨hown, hts⟩, -, hKT⟩ := id X
  obtain ⟨ka, kb, n0', i0', j0', hia, hjb, hcs⟩ := hg
  have hS := hR.2.1
  have hn : R32 n := hS (vi n) (by simp)
  have hj : R32 j := hS (vi j) (by simp)
  have hi : R32 i := hS (vi i) (by simp)
  have hr : ∀ v ∈ r, okv sh.length v := fun v hv => hS v (by simp [hv])
  have hsum := csum_rv (D := D) (st := r) hr
  obtain ⟨a6, al⟩ := hR.2.2.num (a := a) (by omega) (by omega)
  obtain ⟨b6, bl⟩ := hR.2.2.num (a := b) (by omega) (by omega)
  obtain ⟨ga, ra⟩ := (hR.2.2.cell (a := a) (by omega) (by omega)).1 ka
  obtain ⟨gb, rb⟩ := (hR.2.2.cell (a := b) (by omega) (by omega)).1 kb
  obtain ⟨hA, hRA⟩ := hKT.2.1 0 (by decide) (by decide)
  obtain ⟨-, k0, hk0, cm0, hkk0⟩ := hA 0 (fun _ => .null)
  show W p l e R s m args below meth c H locs cells slots Q (F0 m pc ls (.int (i32 n) :: .int (i32 j) :: rv D (vr b) :: .int (i32 i) :: rv D (vr a) :: r.map (rv D)))
  rw [show rv D (vr a) = .ref (adr D a) from if_neg (by omega), show rv D (vr b) = .ref (adr D b) from if_neg (by omega)]
  have nn : ∀ {z : Int}, R32 z → 0 ≤ z → (i32 z).toInt = ((i32 z).toNatClampNeg : Int) := fun hz h0 => by rw [i32_cl hz, i32_tI hz]; omega
  have ng : ∀ {z : Int}, R32 z → 0 ≤ z → ¬ i32 z < 0 := fun hz h0 q => by have := (i32_lt hz R32_0).mp q; omega
  intro T hT XX
  obtain ⟨vm', X', step⟩ := XX.arraycopy hx hown (hts _ (lnk_word hk) rfl) (hts _ (by decide +kernel) rfl) (hts _ (by decide +kernel) rfl) (hts _ (by decide +kernel) rfl) (src := adr D a) (dst := adr D b) (cs := arrV (D.2.2.1 0) (kd sh a).2 (fun j => .int (i32 (h a j)))) (cd := arrV (D.2.2.1 0) (kd sh b).2 (fun j => .int (i32 (h b j)))) (srcPos := i32 i) (destPos := i32 j) (n := i32 n) (by rw [hT]; exact ga) (by rw [hT]; exact gb)
    (fun _ h => by cases h) (fun _ h => by cases h) (fun h => by cases h) (fun h => by cases h) hk0 hk0 hkk0 hkk0 (by simp) (ng hi i0') (ng hj j0') (ng hn n0')
    (by rw [nn hi i0', nn hn n0', arrV_size, i32_cl hi, i32_cl hn]; omega)
    (by rw [nn hj j0', nn hn n0', arrV_size, i32_cl hj, i32_cl hn]; omega)
    (fun vm₁ _ k hk => by
      rw [i32_cl hn] at hk
      rw [i32_cl hi]
      have e : (arrV (D.2.2.1 0) (kd sh a).2 (fun j => .int (i32 (h a j)))).slots.getD (i.toNat + k) .null = .int (i32 (h a ((i.toNat + k : Nat) : Int))) := by
        rw [Array.getD_eq_getD_getElem?, arrV_read _ _ (by omega)]
        rfl
      refine ⟨?_, ?_⟩
      · rw [e]; rfl
      · rw [e]; exact trivial)
    (g := F0 m pc ls (.int (i32 n) :: .int (i32 j) :: .ref (adr D b) :: .int (i32 i) :: .ref (adr D a) :: r.map (rv D))) rfl (hR.1.1.trans hml.symm) (rest := r.map (rv D)) rfl (by rw [hb]; exact hd) hrm.1 (by show 2 * 0 + _ + (nativeFrameWords "java/lang/System" "arraycopy" 5 + 11) ≤ _; rw [hsum]; have nfw : nativeFrameWords "java/lang/System" "arraycopy" 5 = 7 := (by decide +kernel); rw [nfw]; omega)
  have e1 : copied (arrV (D.2.2.1 0) (kd sh a).2 (fun j => .int (i32 (h a j)))) (arrV (D.2.2.1 0) (kd sh b).2 (fun j => .int (i32 (h b j)))) (i32 i) (i32 j) (i32 n) = arrV (D.2.2.1 0) (kd sh b).2 (fun k => .int (i32 (cpyH h b j a i n b k))) := by
    refine (va_copied (fun z => .int z) (D.2.2.1 0) (D.2.2.1 0) (fun k => i32 (h a k)) (fun k => i32 (h b k)) (sp := (i32 i).toNatClampNeg) (dp := (i32 j).toNatClampNeg) (n := (i32 n).toNatClampNeg) (by rw [i32_cl hi, i32_cl hn]; omega)).trans ?_
    rw [i32_cl hi, i32_cl hj, i32_cl hn]
    congr 1
    funext k
    unfold va_cpy cpyH
    by_cases q : j.toNat ≤ k ∧ k < j.toNat + n.toNat
    · rw [if_pos q, if_pos ⟨rfl, by omega, by omega⟩]
      have e9 : ((i.toNat + (k - j.toNat) : Nat) : Int) = i + ((k : Int) - j) := by omega
      show Value.int (i32 (h a ((i.toNat + (k - j.toNat) : Nat) : Int))) = _
      rw [e9]
    · rw [if_neg q, if_neg (fun z => q (by have := z.2; omega))]
  rw [e1] at X' step
  generalize hcl : arrV (D.2.2.1 0) (kd sh b).2 (fun k => .int (i32 (cpyH h b j a i n b k))) = nc at X' step
  have hbl : adr D b < H.size := (Array.getElem?_eq_some_iff.mp gb).1
  have hheap : ((T.setVm vm').setCell (adr D b) nc).heap = H.setIfInBounds (adr D b) nc := by rw [← hT]; rfl
  have oq : ∀ q : Nat, q ≠ adr D b → (H.setIfInBounds (adr D b) nc)[q]? = H[q]? := fun q hq => by simp [Array.getElem?_setIfInBounds, Ne.symm hq]
  have hAb : D.2.2.2.1 ≤ adr D b := by rw [adr_ge b6]; omega
  obtain ⟨t, a1, b1⟩ := kk _ _ ⟨hR.1, hr, hR.2.2.upd b6 (by simp) oq (fun x hx => cpyH_o hx) fun _ => ⟨fun q => ⟨by rw [hcl]; simp [Array.getElem?_setIfInBounds, hbl], fun k hk => by
      unfold cpyH
      split
      · rename_i q
        have := ra (i.toNat + (k - j.toNat)) (by omega)
        rwa [show ((i.toNat + (k - j.toNat) : Nat) : Int) = i + ((k : Int) - j) by omega] at this
      · exact rb k hk⟩, fun q => by omega, fun q => by omega, fun q => by omega, fun c2 q => by omega⟩⟩ ⟨by simp; exact hF.1, fun q g1 g2 => by
      rw [oq q (fun e => g2 (by rw [e]; exact hAb))]
      exact hF.2.1 q g1 g2, fun q hq => by
      rcases List.mem_append.mp hq with h | h
      · exact hF.2.2 q h
      · obtain ⟨z, -, hz⟩ := List.mem_map.mp h
        rw [← hz]
        exact hAb⟩ _ hheap X'
  exact ⟨t, step t a1, b1⟩
end SX
