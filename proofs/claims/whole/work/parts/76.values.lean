-- ===== the reference's findValues() =====
section
variable {X : Nat × (Int → Int)} {Q : bQ} {b h0 : HP}
theorem L70a (cont : ∀ h, P h = P b → Fr fVv h0 h → (∀ j, 0 ≤ j → j < 100 → h 98 j = -1) → Wp X 0 70 23 [vr 89, vi 0, vu, vu, vu, vu, vu, vu] [] h Q) : ∀ (k : Nat) (x : Int) (h : HP), 0 ≤ x → x + k = 100 → P h = P b → Fr fVv h0 h → (∀ j, 0 ≤ j → j < x → h 98 j = -1) → Wp X 0 70 2 [vr 89, vi x, vu, vu, vu, vu, vu, vu] [] h Q
  | 0, x, h, _, hk, hP, F, V => S70_89_2 x ⟨fun _ => cont h hP F (fun j a c => V j a (by omega)), fun e => absurd e (by omega)⟩
  | k + 1, x, h, hx, hk, hP, F, V => S70_89_2 x ⟨fun e => absurd e (by omega), fun _ => ⟨⟨by omega, by omega⟩, L70a cont k (x + 1) _ (by omega) (by omega) ((P_up rfl).trans hP) (F.up (.inl ⟨by decide, by decide⟩)) (fun j a c => by
      rw [upd2_at]
      split
      · rfl
      · exact V j a (by omega))⟩⟩
theorem L70b (T : Tok b) (cont : ∀ h, P h = P b → Fr fVv h0 h → (∀ j, 0 ≤ j → j < 100 → h 98 j = VL b j) → h 89 16 = 0 → Wp X 0 70 90 [vr 89, vi 0, vu, vu, vu, vu, vu, vu] [] h Q) : ∀ (k : Nat) (n : Nat) (h : HP), (n : Int) + k = b 89 6 → P h = P b → Fr fVv h0 h → (∀ j, 0 ≤ j → j < 100 → h 98 j = vlu (b 94) (b 95) (b 96) (b 97 3) n j) → Wp X 0 70 23 [vr 89, vi n, vu, vu, vu, vu, vu, vu] [] h Q
  | 0, n, h, hk, hP, F, V => by
    have e6 : h 89 6 = b 89 6 := congrFun (congrFun hP 89) 6
    refine S70_89_23 n ⟨fun _ => cont _ ((P_up rfl).trans hP) (F.up (.inr ⟨rfl, rfl⟩)) (fun j a c => ?_) upd2_s, fun e => absurd e (by omega)⟩
    rw [upd2_ne (by decide), V j a c, show n = (b 89 6).toNat by omega]
    rfl
  | k + 1, n, h, hk, hP, F, V => by
    have e6 : h 89 6 = b 89 6 := congrFun (congrFun hP 89) 6
    have e94 : h 94 n = b 94 n := congrFun (congrFun hP 94) n
    have e95 : h 95 n = b 95 n := congrFun (congrFun hP 95) n
    have e96 : h 96 n = b 96 n := congrFun (congrFun hP 96) n
    have e97 : h 97 3 = b 97 3 := congrFun (congrFun hP 97) 3
    have t1 := T.1
    have t2 := T.2 n (by omega)
    refine S70_89_23 n ⟨fun e => absurd e (by omega), fun _ => ⟨⟨by omega, by omega⟩, fun c => ⟨⟨by omega, by omega⟩, ?_⟩, fun c => ⟨⟨by omega, by omega⟩, ?_⟩⟩⟩
    · refine L70b T cont k (n + 1) _ (by omega) ((P_up rfl).trans hP) (F.up (.inl ⟨by decide, by decide⟩)) (fun j a d => ?_)
      rw [upd2_at, show vlu (b 94) (b 95) (b 96) (b 97 3) (n + 1) j = vlu (b 94) (b 95) (b 96) (b 97 3) n j from if_neg (fun q => by omega)]
      by_cases e : j = h 94 n
      · rw [if_pos e, ← e]; exact V j a d
      · rw [if_neg e]; exact V j a d
    · refine L70b T cont k (n + 1) _ (by omega) ((P_up rfl).trans hP) (F.up (.inl ⟨by decide, by decide⟩)) (fun j a d => ?_)
      rw [upd2_at]
      by_cases e : j = h 94 n
      · rw [if_pos e, show vlu (b 94) (b 95) (b 96) (b 97 3) (n + 1) j = b 95 n from if_pos ⟨by omega, by omega⟩, e95]
      · rw [if_neg e, show vlu (b 94) (b 95) (b 96) (b 97 3) (n + 1) j = vlu (b 94) (b 95) (b 96) (b 97 3) n j from if_neg (fun q => by omega)]
        exact V j a d
theorem L70d {h : HP} {V : Int → Int} {g : Int} (hg : 0 ≤ g ∧ g < 20) (hV : Vok V) (e : ∀ k, 0 ≤ k → k < 100 → h 98 k = V k) (c0 : ∀ z, cnp V g 5 = 0 → Wp X 0 70 90 [vr 89, vi (g + 1), vi (cnp V g 5), vi (smp V g 5), vi (lsp V g 5), vi (grp V g 5), vi 5, z] [] (upd2 (upd2 (upd2 h 101 g 1) 99 g 0) 100 g 0) Q) (c1 : ∀ z, 0 < cnp V g 5 → (0 ≤ (h 89 16) ∧ (h 89 16) < 20) ∧ Wp X 0 70 90 [vr 89, vi (g + 1), vi (cnp V g 5), vi (smp V g 5), vi (lsp V g 5), vi (grp V g 5), vi 5, z] [] (upd2 (upd2 (upd2 (upd2 (upd2 h 101 g 0) 99 g (Int.tdiv ((smp V g 5) * 60) (cnp V g 5))) 100 g ((grp V g 5) - (lsp V g 5))) 102 (h 89 16) g) 89 16 ((h 89 16) + 1)) Q) : ∀ (k p : Nat) (z : aV), p + k = 5 → Wp X 0 70 113 [vr 89, vi g, vi (cnp V g p), vi (smp V g p), vi (lsp V g p), vi (grp V g p), vi p, z] [] h Q
  | 0, p, z, hp => by
    have hp : p = 5 := by omega
    subst hp
    have r1 := cnp_r (V := V) (g := g) 5
    have r2 := smp_r hV (g := g) 5
    have r3 := lsp_r hV (g := g) 5
    refine S70_89_113 g _ _ _ _ _ z ⟨fun _ => ⟨fun c => ⟨hg, by unfold R32; omega, ?_, by unfold R32; omega, fun q => absurd q (by omega), fun q => c1 z q⟩, fun c => ⟨hg, c0 z c⟩⟩, fun q => absurd q (by omega)⟩
    have := mean_r (s := smp V g 5) (c := cnp V g 5) (by omega) (by omega) (by omega)
    unfold R32; omega
  | k + 1, p, z, hp => by
    have r1 := cnp_r (V := V) (g := g) p
    have r2 := smp_r hV (g := g) p
    have r3 := lsp_r hV (g := g) p
    have rv := hV (5 * g + p)
    have ih := L70d hg hV e c0 c1 k (p + 1) (vi (V (5 * g + p))) (by omega)
    refine S70_89_113 g _ _ _ _ _ z ⟨fun q => absurd q (by omega), fun _ => ⟨by unfold R32; omega, by unfold R32; omega, by omega, ?_⟩⟩
    rw [e _ (by omega) (by omega)]
    unfold cnp smp lsp grp at ih
    refine ⟨fun c => ⟨by unfold R32; omega, by unfold R32; omega, fun c2 => ⟨fun c3 => ⟨by unfold R32; omega, ?_⟩, fun c3 => ⟨by unfold R32; omega, ?_⟩⟩, fun c2 => ⟨fun c3 => ⟨by unfold R32; omega, ?_⟩, fun c3 => ⟨by unfold R32; omega, ?_⟩⟩⟩, fun c => ⟨by unfold R32; omega, by unfold R32; omega, by unfold R32; omega, ?_⟩⟩
    · rw [if_neg c, if_neg c, if_neg c, if_neg c, if_neg (by omega), if_neg (by omega)] at ih; exact ih
    · rw [if_neg c, if_neg c, if_neg c, if_neg c, if_neg (by omega), if_pos (by omega)] at ih; exact ih
    · rw [if_neg c, if_neg c, if_neg c, if_neg c, if_pos (by omega), if_neg (by omega)] at ih; exact ih
    · rw [if_neg c, if_neg c, if_neg c, if_neg c, if_pos (by omega), if_pos (by omega)] at ih; exact ih
    · rw [if_pos c, if_pos c, if_pos c, if_pos c] at ih; exact ih
theorem L70c (T : Tok b) (cont : ∀ h, P h = P b → Fr fVv h0 h → VV b h → Q none h) : ∀ (k n : Nat) (h : HP) (z2 z3 z4 z5 z6 z7 : aV), (n : Int) + k = b 89 5 → P h = P b → Fr fVv h0 h → (∀ k : Int, 0 ≤ k → k < 100 → h 98 k = VL b k) → (∀ g : Int, 0 ≤ g → g < n → h 99 g = mnV (VL b) g ∧ h 100 g = spV (VL b) g ∧ h 101 g = (if cnp (VL b) g 5 = 0 then 1 else 0)) → Ar (h 102) (rwl (VL b) n) → h 89 16 = (rwl (VL b) n).length → Wp X 0 70 90 [vr 89, vi n, z2, z3, z4, z5, z6, z7] [] h Q
  | 0, n, h, z2, z3, z4, z5, z6, z7, hk, hP, F, V, M, A, L => by
    have e5 : h 89 5 = b 89 5 := congrFun (congrFun hP 89) 5
    have en : n = gn b := by unfold gn; omega
    subst en
    exact S70_89_90 _ _ _ _ _ _ _ ⟨fun _ => cont h hP F ⟨V, fun g a c => M g a (by omega), A, L⟩, fun q => absurd q (by omega)⟩
  | k + 1, n, h, z2, z3, z4, z5, z6, z7, hk, hP, F, V, M, A, L => by
    have e5 : h 89 5 = b 89 5 := congrFun (congrFun hP 89) 5
    have t1 := T.1
    have hl := rwl_len (V := VL b) n
    have hr : rwl (VL b) (n + 1) = if cnp (VL b) n 5 = 0 then rwl (VL b) n else rwl (VL b) n ++ [(n : Int)] := rfl
    refine S70_89_90 _ _ _ _ _ _ _ ⟨fun q => absurd q (by omega), fun _ => L70d (V := VL b) ⟨by omega, by omega⟩ (VL_ok T) V (fun z c => ?_) (fun z c => ⟨⟨by omega, by omega⟩, ?_⟩) 5 0 z7 rfl⟩
    · rw [if_pos c] at hr
      refine L70c T cont k (n + 1) _ _ _ _ _ _ _ (by omega) ((P_up rfl).trans ((P_up rfl).trans ((P_up rfl).trans hP))) (((F.up (.inl ⟨by decide, by decide⟩)).up (.inl ⟨by decide, by decide⟩)).up (.inl ⟨by decide, by decide⟩)) (fun j a d => ?_) (fun g a d => ?_) ?_ ?_
      · rw [upd2_ne (by decide), upd2_ne (by decide), upd2_ne (by decide)]; exact V j a d
      · rw [upd2_ne (a := 100) (b := 99) (by decide), upd2_ne (a := 100) (b := 101) (by decide), upd2_ne (a := 99) (b := 101) (by decide), upd2_at, upd2_at, upd2_at, upd2_ne (a := 101) (b := 99) (by decide), upd2_ne (a := 99) (b := 100) (by decide), upd2_ne (a := 101) (b := 100) (by decide)]
        by_cases q : g = n
        · rw [if_pos q, if_pos q, if_pos q, q]
          unfold mnV spV
          rw [if_pos c, if_pos c, if_pos c]
          exact ⟨rfl, rfl, rfl⟩
        · rw [if_neg q, if_neg q, if_neg q]
          exact M g a (by omega)
      · rw [hr]; exact A.cg (by rw [upd2_ne (by decide), upd2_ne (by decide), upd2_ne (by decide)])
      · rw [hr, ← L, upd2_ne (by decide), upd2_ne (by decide), upd2_ne (by decide)]
    · have c' : cnp (VL b) n 5 ≠ 0 := by omega
      rw [if_neg c'] at hr
      refine L70c T cont k (n + 1) _ _ _ _ _ _ _ (by omega) ((P_up rfl).trans ((P_up rfl).trans ((P_up rfl).trans ((P_up rfl).trans ((P_up rfl).trans hP))))) (((((F.up (.inl ⟨by decide, by decide⟩)).up (.inl ⟨by decide, by decide⟩)).up (.inl ⟨by decide, by decide⟩)).up (.inl ⟨by decide, by decide⟩)).up (.inr ⟨rfl, rfl⟩)) (fun j a d => ?_) (fun g a d => ?_) ?_ ?_
      · rw [upd2_ne (by decide), upd2_ne (by decide), upd2_ne (by decide), upd2_ne (by decide), upd2_ne (by decide)]; exact V j a d
      · rw [upd2_ne (a := 89) (b := 99) (by decide), upd2_ne (a := 89) (b := 100) (by decide), upd2_ne (a := 89) (b := 101) (by decide), upd2_ne (a := 102) (b := 99) (by decide), upd2_ne (a := 102) (b := 100) (by decide), upd2_ne (a := 102) (b := 101) (by decide), upd2_ne (a := 100) (b := 99) (by decide), upd2_ne (a := 100) (b := 101) (by decide), upd2_ne (a := 99) (b := 101) (by decide), upd2_at, upd2_at, upd2_at, upd2_ne (a := 101) (b := 99) (by decide), upd2_ne (a := 99) (b := 100) (by decide), upd2_ne (a := 101) (b := 100) (by decide)]
        by_cases q : g = n
        · rw [if_pos q, if_pos q, if_pos q, q]
          unfold mnV spV
          rw [if_neg c', if_neg c', if_neg c']
          exact ⟨rfl, rfl, rfl⟩
        · rw [if_neg q, if_neg q, if_neg q]
          exact M g a (by omega)
      · rw [hr]
        refine A.snoc (fun j q => ?_) ?_
        · rw [upd2_ne (by decide), upd2_at, if_neg (by rw [L]; exact q), upd2_ne (by decide), upd2_ne (by decide), upd2_ne (by decide)]
        · rw [upd2_ne (by decide), upd2_at, if_pos L.symm]
      · rw [hr, upd2_s, L, List.length_append]
        rfl
theorem K70 (hP : P h0 = P b) (T : Tok b) : Wp X 0 70 0 [vr 89, vu, vu, vu, vu, vu, vu, vu] [] h0 (fun r h => r = none ∧ P h = P b ∧ Fr fVv h0 h ∧ VV b h) := by
  refine S70_89_0 (L70a (fun h hP F V => ?_) 100 0 h0 (by omega) rfl hP Fr.rf (fun j a c => absurd c (by omega)))
  have t1 := T.1
  refine L70b T (fun h hP F V L => ?_) (b 89 6).toNat 0 h (by omega) hP F (fun j a c => V j a c)
  exact L70c T (fun h hP F V => ⟨rfl, hP, F, V⟩) (b 89 5).toNat 0 h _ _ _ _ _ _ (by omega) hP F V (fun g a c => absurd c (by omega)) Ar.nil L
end
