-- ===== rows of rows =====
theorem ml_outer (c : ClassId) (N h0 : Nat) : ∀ i : Nat, Jvm.Free.Multi.outerC c N h0 i = arrV c N (fun j => if j < i then Value.ref (h0 + 1 + j) else .null)
  | 0 => by
    show ({ cls := c, slots := Array.replicate N .null, vm := .none } : Cell) = _
    rw [arrV_new]
    refine congrArg (arrV c N) (funext fun j => ?_)
    rw [if_neg (by omega)]
  | i + 1 => by
    show (Jvm.Free.Multi.outerC c N h0 i).setSlot i (.ref (h0 + 1 + i)) = _
    rw [ml_outer c N h0 i, arrV_store]
    refine congrArg (arrV c N) (funext fun j => ?_)
    unfold updV
    by_cases e : j = i
    · subst e
      rw [if_pos rfl, if_pos (by omega)]
    · rw [if_neg e]
      dsimp only
      by_cases h : j < i
      · rw [if_pos h, if_pos (by omega)]
      · rw [if_neg h, if_neg (by omega)]
theorem CW.addL {D : sD} {sh x : SH} {h h' : HP} {H H' : Heap} (W : CW D sh h H) (hz : H'.size = H.size + x.length) (oq : ∀ q : Nat, q < H.size → H'[q]? = H[q]?) (hh : ∀ b, b < sh.length → h' b = h b) (hc : ∀ i, i < x.length → (kd x i).1 ≠ 5 ∧ cellR D (sh.length + x.length) h' H' (sh.length + i) (kd x i)) : CW D (sh ++ x) h' H' := by
  obtain ⟨⟨w0, w1⟩, w2, w3, w4⟩ := W
  have hl : (sh ++ x).length = sh.length + x.length := List.length_append
  refine ⟨⟨by omega, by rw [hz, w1, hl]; omega⟩, fun b h1 h2 => ?_, fun b h1 h2 => ?_, by rw [kd_app (by omega)]; exact w4⟩
  · rw [hl] at h2 ⊢
    by_cases hb : b < sh.length
    · rw [kd_app hb]
      refine ⟨(w2 b h1 hb).1, (w2 b h1 hb).2.kept (by omega) (hh b hb) (oq _ ?_)⟩
      rw [adr_ge h1, w1]
      omega
    · have e : kd (sh ++ x) b = kd x (b - sh.length) := by
        unfold kd
        rw [List.getD_eq_getElem?_getD, List.getD_eq_getElem?_getD, List.getElem?_append_right (by omega)]
      rw [e]
      have h3 := hc (b - sh.length) (by omega)
      rw [show sh.length + (b - sh.length) = b by omega] at h3
      exact h3
  · rw [kd_app (by omega)]
    obtain ⟨g1, g2, cell, g3, g4, g5⟩ := w3 b h1 h2
    refine ⟨g1, g2, cell, by rw [oq _ (by rw [w1]; omega)]; exact g3, g4, fun j hj => ?_⟩
    rw [hh b (by omega)]
    exact g5 j hj
theorem kd_rep {i : Nat} (h1 : 1 ≤ i) (h2 : i < 21) : kd ((4, 20) :: List.replicate 20 (0, 5)) i = (0, 5) := by
  have : ∀ i, i < 21 → 1 ≤ i → kd ((4, 20) :: List.replicate 20 (0, 5)) i = (0, 5) := by decide +kernel
  exact this i h2 h1
section SMN
variable {p : Program} {l : Launch} {e : Env} {R : Room} {s : State} {m : MethodId} {args : Array Value} {below : List Frame} {meth : Method} {c : Code} {Q : State → Prop} {D : sD} {M n0 t0 : Nat}
variable {L st r : List aV} {sh : SH} {h : HP} {H : Heap} {ls : Array Slot} {locs : List Loc} {cells slots pc : Nat}
theorem sn_multi (X : FX p s m args meth c D M) (hR : SRel D M sh h L (vi 5 :: vi 20 :: r) H ls) (hF : va_S (fun q => D.2.2.2.1 ≤ q) s.heap H locs) (hc : cells + n0 = sh.length) (ht : slots + t0 = tot sh) {i : Nat} (hcl : clk (ocl M) i 97 = true) (hd : decode (bc M) pc = .ok (.multianewarray i 2, 4))
    (kk : KK p l e R s m args below meth c Q D M n0 t0 (pc + 4) L (vr sh.length :: r) (sh ++ (4, 20) :: List.replicate 20 (0, 5)) (newM h sh.length 20)) : W p l e R s m args below meth c H locs cells slots Q (F0 m pc ls ((vi 5 :: vi 20 :: r).map (rv D))) := by
  obtain ⟨⟨hx, hb, hml⟩, ⟨hown, hts⟩, -, hKT⟩ := id X
  have h6 := hR.2.2.1.1
  have hxl : ((4, 20) :: List.replicate 20 (0, 5) : SH).length = 21 := rfl
  have hl : (sh ++ (4, 20) :: List.replicate 20 (0, 5)).length = sh.length + 21 := by rw [List.length_append, hxl]
  have ht1 : tot (sh ++ (4, 20) :: List.replicate 20 (0, 5)) = tot sh + 120 := by rw [tot_app]; rfl
  have had : ∀ i, adr D (sh.length + i) = H.size + i := fun i => by rw [hR.2.2.1.2, adr_ge (by omega)]; omega
  have ha : rv D (vr sh.length) = .ref H.size := by rw [show H.size = adr D sh.length from (had 0).symm]; exact if_neg (by omega)
  obtain ⟨hA4, hRA4⟩ := hKT.2.1 4 (by decide) (by decide)
  obtain ⟨hA0, hRA0⟩ := hKT.2.1 0 (by decide) (by decide)
  have ec := kk.1.1
  have es := kk.1.2
  rw [hl] at ec
  rw [ht1] at es
  show W p l e R s m args below meth c H locs cells slots Q (F0 m pc ls (.int (i32 5) :: .int (i32 20) :: r.map (rv D)))
  have c20 : (i32 20).toNatClampNeg = 20 := by decide
  have c5 : (i32 5).toNatClampNeg = 5 := by decide
  intro T hT XX
  obtain ⟨vm₁, cA, comp, -, fA, fC, hO, -, X', step⟩ := XX.multianewarray2F hx hown (index := i) (ty := .int) (hts _ (clk_word hcl) rfl) hKT.2.2.2.2.2.1.2.2.2 (hts _ w_arrI rfl) (g := F0 m pc ls (.int (i32 5) :: .int (i32 20) :: r.map (rv D))) rfl (by rw [hb]; exact hd) rfl (by decide) (by decide) (by decide) (by decide) (by decide) rfl rfl (by rw [c20]; omega) (by rw [c20, c5]; omega)
  rw [c20, c5] at X' step
  have hcA : cA = D.2.2.1 4 := Option.some.inj (fA.symm.trans hRA4)
  have hcC : comp = D.2.2.1 0 := Option.some.inj (fC.symm.trans hRA0)
  subst hcA
  subst hcC
  have hTh : (T.setVm vm₁).heap = H := hT
  obtain ⟨f1, f2, -, -⟩ := Jvm.Free.Multi.fill_facts (T.setVm vm₁) (D.2.2.1 4) (D.2.2.1 0) 20 5 (defaultValue .int) 20
  have hold : ∀ x : Nat, x < H.size → (Jvm.Free.Multi.fill (T.setVm vm₁) (D.2.2.1 4) (D.2.2.1 0) 20 5 (defaultValue .int) 20).heap[x]? = H[x]? := fun x hx => by
    have := Jvm.Free.Multi.fill_old (T.setVm vm₁) (D.2.2.1 4) (D.2.2.1 0) 20 5 (defaultValue .int) (a := x) (by rw [hTh]; exact hx) 20
    rw [hTh] at this
    exact this
  have hrow : ∀ j : Nat, j < 20 → (Jvm.Free.Multi.fill (T.setVm vm₁) (D.2.2.1 4) (D.2.2.1 0) 20 5 (defaultValue .int) 20).heap[H.size + 1 + j]? = some (arrV (D.2.2.1 0) 5 (fun _ => .int 0)) := fun j hj => by
    have := Jvm.Free.Multi.fill_inner (T.setVm vm₁) (D.2.2.1 4) (D.2.2.1 0) 20 5 (defaultValue .int) 20 j hj
    rw [hTh] at this
    rw [this, ← arrV_new]
    rfl
  rw [ml_outer] at f2
  rw [hTh] at f1 f2
  generalize hFF : Jvm.Free.Multi.fill (T.setVm vm₁) (D.2.2.1 4) (D.2.2.1 0) 20 5 (defaultValue .int) 20 = FF at X' step f1 f2 hold hrow
  have hk2 := kk.2 FF.heap ls locs (cells + 1 + 20) (slots + 20 + 20 * 5) ⟨hl ▸ hR.1.mono (by omega), by
      rw [hl]
      intro v hv
      rcases List.mem_cons.mp hv with rfl | hv
      · show sh.length < _
        omega
      · exact (hR.2.1 v (by simp [hv])).mono (by omega), hR.2.2.addL (by rw [f1, hxl]) hold (fun b hb => by
      funext j
      unfold newM
      rw [if_neg (by omega), if_neg (by omega)]) (fun i hi => by
      rw [hxl] at hi ⊢
      rcases Nat.eq_zero_or_pos i with rfl | hi1
      · refine ⟨by show (4 : Nat) ≠ 5; omega, (fun z => by cases z), (fun z => by cases z), (fun z => by cases z), fun _ => ⟨?_, fun j hj => ?_⟩, fun c2 z => ?_⟩
        · rw [had, Nat.add_zero]
          rw [f2]
          congr 2
          funext j
          unfold newM
          by_cases hj : j < 20
          · rw [if_pos hj, if_pos (by omega), if_pos (by omega)]
            rw [show (((sh.length + 1 + (j : Int).toNat : Nat) : Int)).toNat = sh.length + (1 + j) by omega]
            rw [show rv D (vr (sh.length + (1 + j))) = .ref (adr D (sh.length + (1 + j))) from if_neg (by omega), had]
            show Value.ref (H.size + 1 + j) = Value.ref (H.size + (1 + j))
            exact congrArg Value.ref (Nat.add_assoc H.size 1 j)
          · rw [if_neg hj, if_pos (by omega), if_neg (by omega)]
            rfl
        · have hj : j < 20 := hj
          unfold newM
          rw [if_pos (by omega), if_pos (by omega)]
          omega
        · have z : 4 = 10 + c2 := z
          omega
      · rw [kd_rep hi1 hi]
        refine ⟨by show (0 : Nat) ≠ 5; omega, fun _ => ⟨?_, fun j hj => ?_⟩, (fun z => by cases z), (fun z => by cases z), (fun z => by rcases z with z | z | z <;> cases z), fun c2 z => ?_⟩
        · have e1 := hrow (i - 1) (by omega)
          rw [show H.size + 1 + (i - 1) = H.size + i by omega] at e1
          rw [had, e1]
          congr 2
          funext j
          unfold newM
          rw [if_neg (by omega), if_pos (by omega)]
          rfl
        · unfold newM
          rw [if_neg (by omega), if_pos (by omega)]
          exact R32_0
        · have z : 0 = 10 + c2 := z
          omega)⟩ ⟨by rw [f1]; have := hF.1; omega, fun x h1 h2 => (hold x (Nat.lt_of_lt_of_le h1 hF.1)).trans (hF.2.1 x h1 h2), hF.2.2⟩ (by rw [hl]; omega) (by rw [ht1]; omega)
  rw [List.map_cons, ha] at hk2
  obtain ⟨t, a1, b1⟩ := hk2 FF rfl X'
  refine ⟨t, step t ?_, b1⟩
  rw [show T.heap.size = H.size by rw [hT]]
  exact a1
end SMN
