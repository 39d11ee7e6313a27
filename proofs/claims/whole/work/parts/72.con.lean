-- ===== both constructors, by program: wip/whole/gen_con.py =====
theorem wg_getR {ρ M pc np k a r : Nat} {L st : List aV} {sh : SH} {h : HP} {Q : aQ} (hc : cod M pc = some (.checkcast k, np)) (hk : (kd sh a).1 = 10 + k / 64) (e : h a ((k % 64 : Nat) : Int) = (r : Int)) (kk : WG ρ M np L (vr r :: st) sh h Q) : WG ρ M pc L (vr a :: st) sh h Q := wg_step hc rfl ⟨hk, by rw [e, Int.toNat_natCast]; exact kk⟩
theorem con_5 {N : Nat} {h : HP} {Q : aQ} (HH : Q none (SH0 N ++ [(20, 11), (0, 10), (11, 10), (0, 100), (0, 100), (0, 100), (0, 100), (4, 20), (0, 5), (0, 5), (0, 5), (0, 5), (0, 5), (0, 5), (0, 5), (0, 5), (0, 5), (0, 5), (0, 5), (0, 5), (0, 5), (0, 5), (0, 5), (0, 5), (0, 5), (0, 5), (0, 5), (0, 5), (0, 20), (0, 20)]) (upd2 (new0 (upd2 (new0 (upd2 (newM (upd2 (new0 (upd2 (new0 (upd2 (new0 (upd2 (new0 h 9) 8 0 9) 10) 8 1 10) 11) 8 2 11) 12) 8 3 12) 13 20) 8 4 13) 34) 8 5 34) 35) 8 6 35)) : WG 0 141 0 [vr 8] [] (SH0 N ++ [(20, 11), (0, 10), (11, 10)]) h Q := by
  refine wg_step rfl rfl ?_
  show WG _ 141 1 [vr 8] [vr 8] _ _ _
  refine wg_step rfl rfl (And.intro (And.intro (Nat.le_of_ble_eq_true rfl) (Nat.le_of_ble_eq_true rfl)) ?_)
  show WG _ 141 4 [vr 8] [] _ _ _
  refine wg_step rfl rfl ?_
  show WG _ 141 5 [vr 8] [vr 8] _ _ _
  refine wg_step rfl rfl ?_
  show WG _ 141 7 [vr 8] [vi 100, vr 8] _ _ _
  refine wg_step rfl rfl (And.intro (And.intro (show (0 : Int) ≤ (100 : Int) by decide) (show (100 : Int) ≤ 10000 by decide)) ?_)
  show WG _ 141 9 [vr 8] [vr 9, vr 8] _ _ _
  refine wg_step rfl rfl (And.intro rfl ?_)
  show WG _ 141 12 [vr 8] [] _ _ _
  refine wg_step rfl rfl ?_
  show WG _ 141 13 [vr 8] [vr 8] _ _ _
  refine wg_step rfl rfl ?_
  show WG _ 141 15 [vr 8] [vi 100, vr 8] _ _ _
  refine wg_step rfl rfl (And.intro (And.intro (show (0 : Int) ≤ (100 : Int) by decide) (show (100 : Int) ≤ 10000 by decide)) ?_)
  show WG _ 141 17 [vr 8] [vr 10, vr 8] _ _ _
  refine wg_step rfl rfl (And.intro rfl ?_)
  show WG _ 141 20 [vr 8] [] _ _ _
  refine wg_step rfl rfl ?_
  show WG _ 141 21 [vr 8] [vr 8] _ _ _
  refine wg_step rfl rfl ?_
  show WG _ 141 23 [vr 8] [vi 100, vr 8] _ _ _
  refine wg_step rfl rfl (And.intro (And.intro (show (0 : Int) ≤ (100 : Int) by decide) (show (100 : Int) ≤ 10000 by decide)) ?_)
  show WG _ 141 25 [vr 8] [vr 11, vr 8] _ _ _
  refine wg_step rfl rfl (And.intro rfl ?_)
  show WG _ 141 28 [vr 8] [] _ _ _
  refine wg_step rfl rfl ?_
  show WG _ 141 29 [vr 8] [vr 8] _ _ _
  refine wg_step rfl rfl ?_
  show WG _ 141 31 [vr 8] [vi 100, vr 8] _ _ _
  refine wg_step rfl rfl (And.intro (And.intro (show (0 : Int) ≤ (100 : Int) by decide) (show (100 : Int) ≤ 10000 by decide)) ?_)
  show WG _ 141 33 [vr 8] [vr 12, vr 8] _ _ _
  refine wg_step rfl rfl (And.intro rfl ?_)
  show WG _ 141 36 [vr 8] [] _ _ _
  refine wg_step rfl rfl ?_
  show WG _ 141 37 [vr 8] [vr 8] _ _ _
  refine wg_step rfl rfl ?_
  show WG _ 141 39 [vr 8] [vi 20, vr 8] _ _ _
  refine wg_step rfl rfl ?_
  show WG _ 141 40 [vr 8] [vi 5, vi 20, vr 8] _ _ _
  refine wg_step rfl rfl (And.intro (And.intro rfl rfl) ?_)
  show WG _ 141 44 [vr 8] [vr 13, vr 8] _ _ _
  refine wg_step rfl rfl (And.intro rfl ?_)
  show WG _ 141 47 [vr 8] [] _ _ _
  refine wg_step rfl rfl ?_
  show WG _ 141 48 [vr 8] [vr 8] _ _ _
  refine wg_step rfl rfl ?_
  show WG _ 141 50 [vr 8] [vi 20, vr 8] _ _ _
  refine wg_step rfl rfl (And.intro (And.intro (show (0 : Int) ≤ (20 : Int) by decide) (show (20 : Int) ≤ 10000 by decide)) ?_)
  show WG _ 141 52 [vr 8] [vr 34, vr 8] _ _ _
  refine wg_step rfl rfl (And.intro rfl ?_)
  show WG _ 141 55 [vr 8] [] _ _ _
  refine wg_step rfl rfl ?_
  show WG _ 141 56 [vr 8] [vr 8] _ _ _
  refine wg_step rfl rfl ?_
  show WG _ 141 58 [vr 8] [vi 20, vr 8] _ _ _
  refine wg_step rfl rfl (And.intro (And.intro (show (0 : Int) ≤ (20 : Int) by decide) (show (20 : Int) ≤ 10000 by decide)) ?_)
  show WG _ 141 60 [vr 8] [vr 35, vr 8] _ _ _
  refine wg_step rfl rfl (And.intro rfl ?_)
  show WG _ 141 63 [vr 8] [] _ _ _
  exact wg_vret rfl rfl HH
theorem con_8 {N : Nat} {h : HP} {Q : aQ} (HH : Q none (SH0 N ++ [(20, 11), (0, 10), (11, 10), (0, 100), (0, 100), (0, 100), (0, 100), (4, 20), (0, 5), (0, 5), (0, 5), (0, 5), (0, 5), (0, 5), (0, 5), (0, 5), (0, 5), (0, 5), (0, 5), (0, 5), (0, 5), (0, 5), (0, 5), (0, 5), (0, 5), (0, 5), (0, 5), (0, 5), (0, 20), (0, 20), (12, 5)]) h) : WG 0 158 0 [vr 36] [] (SH0 N ++ [(20, 11), (0, 10), (11, 10), (0, 100), (0, 100), (0, 100), (0, 100), (4, 20), (0, 5), (0, 5), (0, 5), (0, 5), (0, 5), (0, 5), (0, 5), (0, 5), (0, 5), (0, 5), (0, 5), (0, 5), (0, 5), (0, 5), (0, 5), (0, 5), (0, 5), (0, 5), (0, 5), (0, 5), (0, 20), (0, 20), (12, 5)]) h Q := by
  refine wg_step rfl rfl ?_
  show WG _ 158 1 [vr 36] [vr 36] _ _ _
  refine wg_step rfl rfl (And.intro (And.intro (Nat.le_of_ble_eq_true rfl) (Nat.le_of_ble_eq_true rfl)) ?_)
  show WG _ 158 4 [vr 36] [] _ _ _
  exact wg_vret rfl rfl HH
theorem con_11 {N : Nat} {h : HP} {Q : aQ} (HH : Q none (SH0 N ++ [(20, 11), (0, 10), (11, 10), (0, 100), (0, 100), (0, 100), (0, 100), (4, 20), (0, 5), (0, 5), (0, 5), (0, 5), (0, 5), (0, 5), (0, 5), (0, 5), (0, 5), (0, 5), (0, 5), (0, 5), (0, 5), (0, 5), (0, 5), (0, 5), (0, 5), (0, 5), (0, 5), (0, 5), (0, 20), (0, 20), (12, 5), (15, 7), (0, 20), (0, 20), (0, 20), (0, 20), (0, 20), (0, 20)]) (upd2 (new0 (upd2 (new0 (upd2 (new0 (upd2 (new0 (upd2 (new0 (upd2 (new0 h 38) 37 0 38) 39) 37 1 39) 40) 37 2 40) 41) 37 3 41) 42) 37 4 42) 43) 37 5 43)) : WG 0 187 0 [vr 37] [] (SH0 N ++ [(20, 11), (0, 10), (11, 10), (0, 100), (0, 100), (0, 100), (0, 100), (4, 20), (0, 5), (0, 5), (0, 5), (0, 5), (0, 5), (0, 5), (0, 5), (0, 5), (0, 5), (0, 5), (0, 5), (0, 5), (0, 5), (0, 5), (0, 5), (0, 5), (0, 5), (0, 5), (0, 5), (0, 5), (0, 20), (0, 20), (12, 5), (15, 7)]) h Q := by
  refine wg_step rfl rfl ?_
  show WG _ 187 1 [vr 37] [vr 37] _ _ _
  refine wg_step rfl rfl (And.intro (And.intro (Nat.le_of_ble_eq_true rfl) (Nat.le_of_ble_eq_true rfl)) ?_)
  show WG _ 187 4 [vr 37] [] _ _ _
  refine wg_step rfl rfl ?_
  show WG _ 187 5 [vr 37] [vr 37] _ _ _
  refine wg_step rfl rfl ?_
  show WG _ 187 7 [vr 37] [vi 20, vr 37] _ _ _
  refine wg_step rfl rfl (And.intro (And.intro (show (0 : Int) ≤ (20 : Int) by decide) (show (20 : Int) ≤ 10000 by decide)) ?_)
  show WG _ 187 9 [vr 37] [vr 38, vr 37] _ _ _
  refine wg_step rfl rfl (And.intro rfl ?_)
  show WG _ 187 12 [vr 37] [] _ _ _
  refine wg_step rfl rfl ?_
  show WG _ 187 13 [vr 37] [vr 37] _ _ _
  refine wg_step rfl rfl ?_
  show WG _ 187 15 [vr 37] [vi 20, vr 37] _ _ _
  refine wg_step rfl rfl (And.intro (And.intro (show (0 : Int) ≤ (20 : Int) by decide) (show (20 : Int) ≤ 10000 by decide)) ?_)
  show WG _ 187 17 [vr 37] [vr 39, vr 37] _ _ _
  refine wg_step rfl rfl (And.intro rfl ?_)
  show WG _ 187 20 [vr 37] [] _ _ _
  refine wg_step rfl rfl ?_
  show WG _ 187 21 [vr 37] [vr 37] _ _ _
  refine wg_step rfl rfl ?_
  show WG _ 187 23 [vr 37] [vi 20, vr 37] _ _ _
  refine wg_step rfl rfl (And.intro (And.intro (show (0 : Int) ≤ (20 : Int) by decide) (show (20 : Int) ≤ 10000 by decide)) ?_)
  show WG _ 187 25 [vr 37] [vr 40, vr 37] _ _ _
  refine wg_step rfl rfl (And.intro rfl ?_)
  show WG _ 187 28 [vr 37] [] _ _ _
  refine wg_step rfl rfl ?_
  show WG _ 187 29 [vr 37] [vr 37] _ _ _
  refine wg_step rfl rfl ?_
  show WG _ 187 31 [vr 37] [vi 20, vr 37] _ _ _
  refine wg_step rfl rfl (And.intro (And.intro (show (0 : Int) ≤ (20 : Int) by decide) (show (20 : Int) ≤ 10000 by decide)) ?_)
  show WG _ 187 33 [vr 37] [vr 41, vr 37] _ _ _
  refine wg_step rfl rfl (And.intro rfl ?_)
  show WG _ 187 36 [vr 37] [] _ _ _
  refine wg_step rfl rfl ?_
  show WG _ 187 37 [vr 37] [vr 37] _ _ _
  refine wg_step rfl rfl ?_
  show WG _ 187 39 [vr 37] [vi 20, vr 37] _ _ _
  refine wg_step rfl rfl (And.intro (And.intro (show (0 : Int) ≤ (20 : Int) by decide) (show (20 : Int) ≤ 10000 by decide)) ?_)
  show WG _ 187 41 [vr 37] [vr 42, vr 37] _ _ _
  refine wg_step rfl rfl (And.intro rfl ?_)
  show WG _ 187 44 [vr 37] [] _ _ _
  refine wg_step rfl rfl ?_
  show WG _ 187 45 [vr 37] [vr 37] _ _ _
  refine wg_step rfl rfl ?_
  show WG _ 187 47 [vr 37] [vi 20, vr 37] _ _ _
  refine wg_step rfl rfl (And.intro (And.intro (show (0 : Int) ≤ (20 : Int) by decide) (show (20 : Int) ≤ 10000 by decide)) ?_)
  show WG _ 187 49 [vr 37] [vr 43, vr 37] _ _ _
  refine wg_step rfl rfl (And.intro rfl ?_)
  show WG _ 187 52 [vr 37] [] _ _ _
  exact wg_vret rfl rfl HH
theorem con_16 {N : Nat} {h : HP} {Q : aQ} (HH : Q none (SH0 N ++ [(20, 11), (0, 10), (11, 10), (0, 100), (0, 100), (0, 100), (0, 100), (4, 20), (0, 5), (0, 5), (0, 5), (0, 5), (0, 5), (0, 5), (0, 5), (0, 5), (0, 5), (0, 5), (0, 5), (0, 5), (0, 5), (0, 5), (0, 5), (0, 5), (0, 5), (0, 5), (0, 5), (0, 5), (0, 20), (0, 20), (12, 5), (15, 7), (0, 20), (0, 20), (0, 20), (0, 20), (0, 20), (0, 20), (3, 2), (16, 9), (0, 50), (0, 8), (0, 8), (19, 5), (1, 9), (1, 9), (1, 5)]) (upd2 (new0 (upd2 (new0 (upd2 (new0 h 50) 49 0 50) 51) 49 1 51) 52) 49 2 52)) : WG 0 236 0 [vr 49] [] (SH0 N ++ [(20, 11), (0, 10), (11, 10), (0, 100), (0, 100), (0, 100), (0, 100), (4, 20), (0, 5), (0, 5), (0, 5), (0, 5), (0, 5), (0, 5), (0, 5), (0, 5), (0, 5), (0, 5), (0, 5), (0, 5), (0, 5), (0, 5), (0, 5), (0, 5), (0, 5), (0, 5), (0, 5), (0, 5), (0, 20), (0, 20), (12, 5), (15, 7), (0, 20), (0, 20), (0, 20), (0, 20), (0, 20), (0, 20), (3, 2), (16, 9), (0, 50), (0, 8), (0, 8), (19, 5)]) h Q := by
  refine wg_step rfl rfl ?_
  show WG _ 236 1 [vr 49] [vr 49] _ _ _
  refine wg_step rfl rfl (And.intro (And.intro (Nat.le_of_ble_eq_true rfl) (Nat.le_of_ble_eq_true rfl)) ?_)
  show WG _ 236 4 [vr 49] [] _ _ _
  refine wg_step rfl rfl ?_
  show WG _ 236 5 [vr 49] [vr 49] _ _ _
  refine wg_step rfl rfl ?_
  show WG _ 236 7 [vr 49] [vi 9, vr 49] _ _ _
  refine wg_step rfl rfl (And.intro (And.intro (show (0 : Int) ≤ (9 : Int) by decide) (show (9 : Int) ≤ 10000 by decide)) ?_)
  show WG _ 236 9 [vr 49] [vr 50, vr 49] _ _ _
  refine wg_step rfl rfl (And.intro rfl ?_)
  show WG _ 236 12 [vr 49] [] _ _ _
  refine wg_step rfl rfl ?_
  show WG _ 236 13 [vr 49] [vr 49] _ _ _
  refine wg_step rfl rfl ?_
  show WG _ 236 15 [vr 49] [vi 9, vr 49] _ _ _
  refine wg_step rfl rfl (And.intro (And.intro (show (0 : Int) ≤ (9 : Int) by decide) (show (9 : Int) ≤ 10000 by decide)) ?_)
  show WG _ 236 17 [vr 49] [vr 51, vr 49] _ _ _
  refine wg_step rfl rfl (And.intro rfl ?_)
  show WG _ 236 20 [vr 49] [] _ _ _
  refine wg_step rfl rfl ?_
  show WG _ 236 21 [vr 49] [vr 49] _ _ _
  refine wg_step rfl rfl ?_
  show WG _ 236 22 [vr 49] [vi 5, vr 49] _ _ _
  refine wg_step rfl rfl (And.intro (And.intro (show (0 : Int) ≤ (5 : Int) by decide) (show (5 : Int) ≤ 10000 by decide)) ?_)
  show WG _ 236 24 [vr 49] [vr 52, vr 49] _ _ _
  refine wg_step rfl rfl (And.intro rfl ?_)
  show WG _ 236 27 [vr 49] [] _ _ _
  exact wg_vret rfl rfl HH
theorem con_14 {N : Nat} {h : HP} {Q : aQ} (HH : WG 1 200 33 [vr 45] [vr 49, vr 49, vr 45] (SH0 N ++ [(20, 11), (0, 10), (11, 10), (0, 100), (0, 100), (0, 100), (0, 100), (4, 20), (0, 5), (0, 5), (0, 5), (0, 5), (0, 5), (0, 5), (0, 5), (0, 5), (0, 5), (0, 5), (0, 5), (0, 5), (0, 5), (0, 5), (0, 5), (0, 5), (0, 5), (0, 5), (0, 5), (0, 5), (0, 20), (0, 20), (12, 5), (15, 7), (0, 20), (0, 20), (0, 20), (0, 20), (0, 20), (0, 20), (3, 2), (16, 9), (0, 50), (0, 8), (0, 8), (19, 5)]) (new0 (upd2 (new0 (upd2 (new0 (upd2 (new0 h 46) 45 0 46) 47) 45 1 47) 48) 45 2 48) 49) Q) : WG 1 200 0 [vr 45] [] (SH0 N ++ [(20, 11), (0, 10), (11, 10), (0, 100), (0, 100), (0, 100), (0, 100), (4, 20), (0, 5), (0, 5), (0, 5), (0, 5), (0, 5), (0, 5), (0, 5), (0, 5), (0, 5), (0, 5), (0, 5), (0, 5), (0, 5), (0, 5), (0, 5), (0, 5), (0, 5), (0, 5), (0, 5), (0, 5), (0, 20), (0, 20), (12, 5), (15, 7), (0, 20), (0, 20), (0, 20), (0, 20), (0, 20), (0, 20), (3, 2), (16, 9)]) h Q := by
  refine wg_step rfl rfl ?_
  show WG _ 200 1 [vr 45] [vr 45] _ _ _
  refine wg_step rfl rfl (And.intro (And.intro (Nat.le_of_ble_eq_true rfl) (Nat.le_of_ble_eq_true rfl)) ?_)
  show WG _ 200 4 [vr 45] [] _ _ _
  refine wg_step rfl rfl ?_
  show WG _ 200 5 [vr 45] [vr 45] _ _ _
  refine wg_step rfl rfl ?_
  show WG _ 200 7 [vr 45] [vi 50, vr 45] _ _ _
  refine wg_step rfl rfl (And.intro (And.intro (show (0 : Int) ≤ (50 : Int) by decide) (show (50 : Int) ≤ 10000 by decide)) ?_)
  show WG _ 200 9 [vr 45] [vr 46, vr 45] _ _ _
  refine wg_step rfl rfl (And.intro rfl ?_)
  show WG _ 200 12 [vr 45] [] _ _ _
  refine wg_step rfl rfl ?_
  show WG _ 200 13 [vr 45] [vr 45] _ _ _
  refine wg_step rfl rfl ?_
  show WG _ 200 15 [vr 45] [vi 8, vr 45] _ _ _
  refine wg_step rfl rfl (And.intro (And.intro (show (0 : Int) ≤ (8 : Int) by decide) (show (8 : Int) ≤ 10000 by decide)) ?_)
  show WG _ 200 17 [vr 45] [vr 47, vr 45] _ _ _
  refine wg_step rfl rfl (And.intro rfl ?_)
  show WG _ 200 20 [vr 45] [] _ _ _
  refine wg_step rfl rfl ?_
  show WG _ 200 21 [vr 45] [vr 45] _ _ _
  refine wg_step rfl rfl ?_
  show WG _ 200 23 [vr 45] [vi 8, vr 45] _ _ _
  refine wg_step rfl rfl (And.intro (And.intro (show (0 : Int) ≤ (8 : Int) by decide) (show (8 : Int) ≤ 10000 by decide)) ?_)
  show WG _ 200 25 [vr 45] [vr 48, vr 45] _ _ _
  refine wg_step rfl rfl (And.intro rfl ?_)
  show WG _ 200 28 [vr 45] [] _ _ _
  refine wg_step rfl rfl ?_
  show WG _ 200 29 [vr 45] [vr 45] _ _ _
  refine wg_step rfl rfl ?_
  show WG _ 200 32 [vr 45] [vr 49, vr 45] _ _ _
  refine wg_step rfl rfl ?_
  show WG _ 200 33 [vr 45] [vr 49, vr 49, vr 45] _ _ _
  exact HH
theorem con_15 {N : Nat} {h : HP} {Q : aQ} (HH : WG 1 200 36 [vr 45] [vr 49, vr 45] (SH0 N ++ [(20, 11), (0, 10), (11, 10), (0, 100), (0, 100), (0, 100), (0, 100), (4, 20), (0, 5), (0, 5), (0, 5), (0, 5), (0, 5), (0, 5), (0, 5), (0, 5), (0, 5), (0, 5), (0, 5), (0, 5), (0, 5), (0, 5), (0, 5), (0, 5), (0, 5), (0, 5), (0, 5), (0, 5), (0, 20), (0, 20), (12, 5), (15, 7), (0, 20), (0, 20), (0, 20), (0, 20), (0, 20), (0, 20), (3, 2), (16, 9), (0, 50), (0, 8), (0, 8), (19, 5), (1, 9), (1, 9), (1, 5)]) (upd2 (new0 (upd2 (new0 (upd2 (new0 h 50) 49 0 50) 51) 49 1 51) 52) 49 2 52) Q) : WG 1 200 33 [vr 45] [vr 49, vr 49, vr 45] (SH0 N ++ [(20, 11), (0, 10), (11, 10), (0, 100), (0, 100), (0, 100), (0, 100), (4, 20), (0, 5), (0, 5), (0, 5), (0, 5), (0, 5), (0, 5), (0, 5), (0, 5), (0, 5), (0, 5), (0, 5), (0, 5), (0, 5), (0, 5), (0, 5), (0, 5), (0, 5), (0, 5), (0, 5), (0, 5), (0, 20), (0, 20), (12, 5), (15, 7), (0, 20), (0, 20), (0, 20), (0, 20), (0, 20), (0, 20), (3, 2), (16, 9), (0, 50), (0, 8), (0, 8), (19, 5)]) h Q := by
  refine wg_call (k := 236) rfl rfl (Nat.le_of_ble_eq_true rfl) (Nat.le_of_ble_eq_true rfl) (Nat.le_of_ble_eq_true rfl) (rcv_V rfl rfl) ?_
  show WG 0 236 0 [vr 49] [] (SH0 N ++ [(20, 11), (0, 10), (11, 10), (0, 100), (0, 100), (0, 100), (0, 100), (4, 20), (0, 5), (0, 5), (0, 5), (0, 5), (0, 5), (0, 5), (0, 5), (0, 5), (0, 5), (0, 5), (0, 5), (0, 5), (0, 5), (0, 5), (0, 5), (0, 5), (0, 5), (0, 5), (0, 5), (0, 5), (0, 20), (0, 20), (12, 5), (15, 7), (0, 20), (0, 20), (0, 20), (0, 20), (0, 20), (0, 20), (3, 2), (16, 9), (0, 50), (0, 8), (0, 8), (19, 5)]) h _
  refine con_16  ?_
  show WG _ 200 36 [vr 45] [vr 49, vr 45] _ _ _
  exact HH
theorem con_17 {N : Nat} {h : HP} {Q : aQ} (HH : Q none (SH0 N ++ [(20, 11), (0, 10), (11, 10), (0, 100), (0, 100), (0, 100), (0, 100), (4, 20), (0, 5), (0, 5), (0, 5), (0, 5), (0, 5), (0, 5), (0, 5), (0, 5), (0, 5), (0, 5), (0, 5), (0, 5), (0, 5), (0, 5), (0, 5), (0, 5), (0, 5), (0, 5), (0, 5), (0, 5), (0, 20), (0, 20), (12, 5), (15, 7), (0, 20), (0, 20), (0, 20), (0, 20), (0, 20), (0, 20), (3, 2), (16, 9), (0, 50), (0, 8), (0, 8), (19, 5), (1, 9), (1, 9), (1, 5)]) (upd2 (upd2 (upd2 (upd2 h 45 3 49) 45 6 (-1)) 45 7 99) 45 8 99)) : WG 1 200 36 [vr 45] [vr 49, vr 45] (SH0 N ++ [(20, 11), (0, 10), (11, 10), (0, 100), (0, 100), (0, 100), (0, 100), (4, 20), (0, 5), (0, 5), (0, 5), (0, 5), (0, 5), (0, 5), (0, 5), (0, 5), (0, 5), (0, 5), (0, 5), (0, 5), (0, 5), (0, 5), (0, 5), (0, 5), (0, 5), (0, 5), (0, 5), (0, 5), (0, 20), (0, 20), (12, 5), (15, 7), (0, 20), (0, 20), (0, 20), (0, 20), (0, 20), (0, 20), (3, 2), (16, 9), (0, 50), (0, 8), (0, 8), (19, 5), (1, 9), (1, 9), (1, 5)]) h Q := by
  refine wg_step rfl rfl (And.intro rfl ?_)
  show WG _ 200 39 [vr 45] [] _ _ _
  refine wg_step rfl rfl ?_
  show WG _ 200 40 [vr 45] [vr 45] _ _ _
  refine wg_step rfl rfl ?_
  show WG _ 200 41 [vr 45] [vi (-1), vr 45] _ _ _
  refine wg_step rfl rfl (And.intro rfl ?_)
  show WG _ 200 44 [vr 45] [] _ _ _
  refine wg_step rfl rfl ?_
  show WG _ 200 45 [vr 45] [vr 45] _ _ _
  refine wg_step rfl rfl ?_
  show WG _ 200 47 [vr 45] [vi 99, vr 45] _ _ _
  refine wg_step rfl rfl (And.intro rfl ?_)
  show WG _ 200 50 [vr 45] [] _ _ _
  refine wg_step rfl rfl ?_
  show WG _ 200 51 [vr 45] [vr 45] _ _ _
  refine wg_step rfl rfl ?_
  show WG _ 200 53 [vr 45] [vi 99, vr 45] _ _ _
  refine wg_step rfl rfl (And.intro rfl ?_)
  show WG _ 200 56 [vr 45] [] _ _ _
  exact wg_vret rfl rfl HH
theorem con_18 {N : Nat} {h : HP} {Q : aQ} (HH : Q none (SH0 N ++ [(20, 11), (0, 10), (11, 10), (0, 100), (0, 100), (0, 100), (0, 100), (4, 20), (0, 5), (0, 5), (0, 5), (0, 5), (0, 5), (0, 5), (0, 5), (0, 5), (0, 5), (0, 5), (0, 5), (0, 5), (0, 5), (0, 5), (0, 5), (0, 5), (0, 5), (0, 5), (0, 5), (0, 5), (0, 20), (0, 20), (12, 5), (15, 7), (0, 20), (0, 20), (0, 20), (0, 20), (0, 20), (0, 20), (3, 2), (16, 9), (0, 50), (0, 8), (0, 8), (19, 5), (1, 9), (1, 9), (1, 5)]) (upd2 (upd2 (upd2 (upd2 (upd2 (new0 (upd2 (new0 (upd2 (new0 (new0 (upd2 (new0 (upd2 (new0 (upd2 (new0 h 46) 45 0 46) 47) 45 1 47) 48) 45 2 48) 49) 50) 49 0 50) 51) 49 1 51) 52) 49 2 52) 45 3 49) 45 6 (-1)) 45 7 99) 45 8 99)) : WG 1 200 0 [vr 45] [] (SH0 N ++ [(20, 11), (0, 10), (11, 10), (0, 100), (0, 100), (0, 100), (0, 100), (4, 20), (0, 5), (0, 5), (0, 5), (0, 5), (0, 5), (0, 5), (0, 5), (0, 5), (0, 5), (0, 5), (0, 5), (0, 5), (0, 5), (0, 5), (0, 5), (0, 5), (0, 5), (0, 5), (0, 5), (0, 5), (0, 20), (0, 20), (12, 5), (15, 7), (0, 20), (0, 20), (0, 20), (0, 20), (0, 20), (0, 20), (3, 2), (16, 9)]) h Q := by
  refine con_14  ?_
  refine con_15  ?_
  refine con_17  ?_
  exact HH
theorem con_23 {N : Nat} {h : HP} {Q : aQ} (HH : Q none (SH0 N ++ [(20, 11), (0, 10), (11, 10), (0, 100), (0, 100), (0, 100), (0, 100), (4, 20), (0, 5), (0, 5), (0, 5), (0, 5), (0, 5), (0, 5), (0, 5), (0, 5), (0, 5), (0, 5), (0, 5), (0, 5), (0, 5), (0, 5), (0, 5), (0, 5), (0, 5), (0, 5), (0, 5), (0, 5), (0, 20), (0, 20), (12, 5), (15, 7), (0, 20), (0, 20), (0, 20), (0, 20), (0, 20), (0, 20), (3, 2), (16, 9), (0, 50), (0, 8), (0, 8), (19, 5), (1, 9), (1, 9), (1, 5), (16, 9), (0, 50), (0, 8), (0, 8), (19, 5), (1, 9), (1, 9), (1, 5)]) (upd2 (new0 (upd2 (new0 (upd2 (new0 h 58) 57 0 58) 59) 57 1 59) 60) 57 2 60)) : WG 0 236 0 [vr 57] [] (SH0 N ++ [(20, 11), (0, 10), (11, 10), (0, 100), (0, 100), (0, 100), (0, 100), (4, 20), (0, 5), (0, 5), (0, 5), (0, 5), (0, 5), (0, 5), (0, 5), (0, 5), (0, 5), (0, 5), (0, 5), (0, 5), (0, 5), (0, 5), (0, 5), (0, 5), (0, 5), (0, 5), (0, 5), (0, 5), (0, 20), (0, 20), (12, 5), (15, 7), (0, 20), (0, 20), (0, 20), (0, 20), (0, 20), (0, 20), (3, 2), (16, 9), (0, 50), (0, 8), (0, 8), (19, 5), (1, 9), (1, 9), (1, 5), (16, 9), (0, 50), (0, 8), (0, 8), (19, 5)]) h Q := by
  refine wg_step rfl rfl ?_
  show WG _ 236 1 [vr 57] [vr 57] _ _ _
  refine wg_step rfl rfl (And.intro (And.intro (Nat.le_of_ble_eq_true rfl) (Nat.le_of_ble_eq_true rfl)) ?_)
  show WG _ 236 4 [vr 57] [] _ _ _
  refine wg_step rfl rfl ?_
  show WG _ 236 5 [vr 57] [vr 57] _ _ _
  refine wg_step rfl rfl ?_
  show WG _ 236 7 [vr 57] [vi 9, vr 57] _ _ _
  refine wg_step rfl rfl (And.intro (And.intro (show (0 : Int) ≤ (9 : Int) by decide) (show (9 : Int) ≤ 10000 by decide)) ?_)
  show WG _ 236 9 [vr 57] [vr 58, vr 57] _ _ _
  refine wg_step rfl rfl (And.intro rfl ?_)
  show WG _ 236 12 [vr 57] [] _ _ _
  refine wg_step rfl rfl ?_
  show WG _ 236 13 [vr 57] [vr 57] _ _ _
  refine wg_step rfl rfl ?_
  show WG _ 236 15 [vr 57] [vi 9, vr 57] _ _ _
  refine wg_step rfl rfl (And.intro (And.intro (show (0 : Int) ≤ (9 : Int) by decide) (show (9 : Int) ≤ 10000 by decide)) ?_)
  show WG _ 236 17 [vr 57] [vr 59, vr 57] _ _ _
  refine wg_step rfl rfl (And.intro rfl ?_)
  show WG _ 236 20 [vr 57] [] _ _ _
  refine wg_step rfl rfl ?_
  show WG _ 236 21 [vr 57] [vr 57] _ _ _
  refine wg_step rfl rfl ?_
  show WG _ 236 22 [vr 57] [vi 5, vr 57] _ _ _
  refine wg_step rfl rfl (And.intro (And.intro (show (0 : Int) ≤ (5 : Int) by decide) (show (5 : Int) ≤ 10000 by decide)) ?_)
  show WG _ 236 24 [vr 57] [vr 60, vr 57] _ _ _
  refine wg_step rfl rfl (And.intro rfl ?_)
  show WG _ 236 27 [vr 57] [] _ _ _
  exact wg_vret rfl rfl HH
theorem con_21 {N : Nat} {h : HP} {Q : aQ} (HH : WG 1 200 33 [vr 53] [vr 57, vr 57, vr 53] (SH0 N ++ [(20, 11), (0, 10), (11, 10), (0, 100), (0, 100), (0, 100), (0, 100), (4, 20), (0, 5), (0, 5), (0, 5), (0, 5), (0, 5), (0, 5), (0, 5), (0, 5), (0, 5), (0, 5), (0, 5), (0, 5), (0, 5), (0, 5), (0, 5), (0, 5), (0, 5), (0, 5), (0, 5), (0, 5), (0, 20), (0, 20), (12, 5), (15, 7), (0, 20), (0, 20), (0, 20), (0, 20), (0, 20), (0, 20), (3, 2), (16, 9), (0, 50), (0, 8), (0, 8), (19, 5), (1, 9), (1, 9), (1, 5), (16, 9), (0, 50), (0, 8), (0, 8), (19, 5)]) (new0 (upd2 (new0 (upd2 (new0 (upd2 (new0 h 54) 53 0 54) 55) 53 1 55) 56) 53 2 56) 57) Q) : WG 1 200 0 [vr 53] [] (SH0 N ++ [(20, 11), (0, 10), (11, 10), (0, 100), (0, 100), (0, 100), (0, 100), (4, 20), (0, 5), (0, 5), (0, 5), (0, 5), (0, 5), (0, 5), (0, 5), (0, 5), (0, 5), (0, 5), (0, 5), (0, 5), (0, 5), (0, 5), (0, 5), (0, 5), (0, 5), (0, 5), (0, 5), (0, 5), (0, 20), (0, 20), (12, 5), (15, 7), (0, 20), (0, 20), (0, 20), (0, 20), (0, 20), (0, 20), (3, 2), (16, 9), (0, 50), (0, 8), (0, 8), (19, 5), (1, 9), (1, 9), (1, 5), (16, 9)]) h Q := by
  refine wg_step rfl rfl ?_
  show WG _ 200 1 [vr 53] [vr 53] _ _ _
  refine wg_step rfl rfl (And.intro (And.intro (Nat.le_of_ble_eq_true rfl) (Nat.le_of_ble_eq_true rfl)) ?_)
  show WG _ 200 4 [vr 53] [] _ _ _
  refine wg_step rfl rfl ?_
  show WG _ 200 5 [vr 53] [vr 53] _ _ _
  refine wg_step rfl rfl ?_
  show WG _ 200 7 [vr 53] [vi 50, vr 53] _ _ _
  refine wg_step rfl rfl (And.intro (And.intro (show (0 : Int) ≤ (50 : Int) by decide) (show (50 : Int) ≤ 10000 by decide)) ?_)
  show WG _ 200 9 [vr 53] [vr 54, vr 53] _ _ _
  refine wg_step rfl rfl (And.intro rfl ?_)
  show WG _ 200 12 [vr 53] [] _ _ _
  refine wg_step rfl rfl ?_
  show WG _ 200 13 [vr 53] [vr 53] _ _ _
  refine wg_step rfl rfl ?_
  show WG _ 200 15 [vr 53] [vi 8, vr 53] _ _ _
  refine wg_step rfl rfl (And.intro (And.intro (show (0 : Int) ≤ (8 : Int) by decide) (show (8 : Int) ≤ 10000 by decide)) ?_)
  show WG _ 200 17 [vr 53] [vr 55, vr 53] _ _ _
  refine wg_step rfl rfl (And.intro rfl ?_)
  show WG _ 200 20 [vr 53] [] _ _ _
  refine wg_step rfl rfl ?_
  show WG _ 200 21 [vr 53] [vr 53] _ _ _
  refine wg_step rfl rfl ?_
  show WG _ 200 23 [vr 53] [vi 8, vr 53] _ _ _
  refine wg_step rfl rfl (And.intro (And.intro (show (0 : Int) ≤ (8 : Int) by decide) (show (8 : Int) ≤ 10000 by decide)) ?_)
  show WG _ 200 25 [vr 53] [vr 56, vr 53] _ _ _
  refine wg_step rfl rfl (And.intro rfl ?_)
  show WG _ 200 28 [vr 53] [] _ _ _
  refine wg_step rfl rfl ?_
  show WG _ 200 29 [vr 53] [vr 53] _ _ _
  refine wg_step rfl rfl ?_
  show WG _ 200 32 [vr 53] [vr 57, vr 53] _ _ _
  refine wg_step rfl rfl ?_
  show WG _ 200 33 [vr 53] [vr 57, vr 57, vr 53] _ _ _
  exact HH
theorem con_22 {N : Nat} {h : HP} {Q : aQ} (HH : WG 1 200 36 [vr 53] [vr 57, vr 53] (SH0 N ++ [(20, 11), (0, 10), (11, 10), (0, 100), (0, 100), (0, 100), (0, 100), (4, 20), (0, 5), (0, 5), (0, 5), (0, 5), (0, 5), (0, 5), (0, 5), (0, 5), (0, 5), (0, 5), (0, 5), (0, 5), (0, 5), (0, 5), (0, 5), (0, 5), (0, 5), (0, 5), (0, 5), (0, 5), (0, 20), (0, 20), (12, 5), (15, 7), (0, 20), (0, 20), (0, 20), (0, 20), (0, 20), (0, 20), (3, 2), (16, 9), (0, 50), (0, 8), (0, 8), (19, 5), (1, 9), (1, 9), (1, 5), (16, 9), (0, 50), (0, 8), (0, 8), (19, 5), (1, 9), (1, 9), (1, 5)]) (upd2 (new0 (upd2 (new0 (upd2 (new0 h 58) 57 0 58) 59) 57 1 59) 60) 57 2 60) Q) : WG 1 200 33 [vr 53] [vr 57, vr 57, vr 53] (SH0 N ++ [(20, 11), (0, 10), (11, 10), (0, 100), (0, 100), (0, 100), (0, 100), (4, 20), (0, 5), (0, 5), (0, 5), (0, 5), (0, 5), (0, 5), (0, 5), (0, 5), (0, 5), (0, 5), (0, 5), (0, 5), (0, 5), (0, 5), (0, 5), (0, 5), (0, 5), (0, 5), (0, 5), (0, 5), (0, 20), (0, 20), (12, 5), (15, 7), (0, 20), (0, 20), (0, 20), (0, 20), (0, 20), (0, 20), (3, 2), (16, 9), (0, 50), (0, 8), (0, 8), (19, 5), (1, 9), (1, 9), (1, 5), (16, 9), (0, 50), (0, 8), (0, 8), (19, 5)]) h Q := by
  refine wg_call (k := 236) rfl rfl (Nat.le_of_ble_eq_true rfl) (Nat.le_of_ble_eq_true rfl) (Nat.le_of_ble_eq_true rfl) (rcv_V rfl rfl) ?_
  show WG 0 236 0 [vr 57] [] (SH0 N ++ [(20, 11), (0, 10), (11, 10), (0, 100), (0, 100), (0, 100), (0, 100), (4, 20), (0, 5), (0, 5), (0, 5), (0, 5), (0, 5), (0, 5), (0, 5), (0, 5), (0, 5), (0, 5), (0, 5), (0, 5), (0, 5), (0, 5), (0, 5), (0, 5), (0, 5), (0, 5), (0, 5), (0, 5), (0, 20), (0, 20), (12, 5), (15, 7), (0, 20), (0, 20), (0, 20), (0, 20), (0, 20), (0, 20), (3, 2), (16, 9), (0, 50), (0, 8), (0, 8), (19, 5), (1, 9), (1, 9), (1, 5), (16, 9), (0, 50), (0, 8), (0, 8), (19, 5)]) h _
  refine con_23  ?_
  show WG _ 200 36 [vr 53] [vr 57, vr 53] _ _ _
  exact HH
theorem con_24 {N : Nat} {h : HP} {Q : aQ} (HH : Q none (SH0 N ++ [(20, 11), (0, 10), (11, 10), (0, 100), (0, 100), (0, 100), (0, 100), (4, 20), (0, 5), (0, 5), (0, 5), (0, 5), (0, 5), (0, 5), (0, 5), (0, 5), (0, 5), (0, 5), (0, 5), (0, 5), (0, 5), (0, 5), (0, 5), (0, 5), (0, 5), (0, 5), (0, 5), (0, 5), (0, 20), (0, 20), (12, 5), (15, 7), (0, 20), (0, 20), (0, 20), (0, 20), (0, 20), (0, 20), (3, 2), (16, 9), (0, 50), (0, 8), (0, 8), (19, 5), (1, 9), (1, 9), (1, 5), (16, 9), (0, 50), (0, 8), (0, 8), (19, 5), (1, 9), (1, 9), (1, 5)]) (upd2 (upd2 (upd2 (upd2 h 53 3 57) 53 6 (-1)) 53 7 99) 53 8 99)) : WG 1 200 36 [vr 53] [vr 57, vr 53] (SH0 N ++ [(20, 11), (0, 10), (11, 10), (0, 100), (0, 100), (0, 100), (0, 100), (4, 20), (0, 5), (0, 5), (0, 5), (0, 5), (0, 5), (0, 5), (0, 5), (0, 5), (0, 5), (0, 5), (0, 5), (0, 5), (0, 5), (0, 5), (0, 5), (0, 5), (0, 5), (0, 5), (0, 5), (0, 5), (0, 20), (0, 20), (12, 5), (15, 7), (0, 20), (0, 20), (0, 20), (0, 20), (0, 20), (0, 20), (3, 2), (16, 9), (0, 50), (0, 8), (0, 8), (19, 5), (1, 9), (1, 9), (1, 5), (16, 9), (0, 50), (0, 8), (0, 8), (19, 5), (1, 9), (1, 9), (1, 5)]) h Q := by
  refine wg_step rfl rfl (And.intro rfl ?_)
  show WG _ 200 39 [vr 53] [] _ _ _
  refine wg_step rfl rfl ?_
  show WG _ 200 40 [vr 53] [vr 53] _ _ _
  refine wg_step rfl rfl ?_
  show WG _ 200 41 [vr 53] [vi (-1), vr 53] _ _ _
  refine wg_step rfl rfl (And.intro rfl ?_)
  show WG _ 200 44 [vr 53] [] _ _ _
  refine wg_step rfl rfl ?_
  show WG _ 200 45 [vr 53] [vr 53] _ _ _
  refine wg_step rfl rfl ?_
  show WG _ 200 47 [vr 53] [vi 99, vr 53] _ _ _
  refine wg_step rfl rfl (And.intro rfl ?_)
  show WG _ 200 50 [vr 53] [] _ _ _
  refine wg_step rfl rfl ?_
  show WG _ 200 51 [vr 53] [vr 53] _ _ _
  refine wg_step rfl rfl ?_
  show WG _ 200 53 [vr 53] [vi 99, vr 53] _ _ _
  refine wg_step rfl rfl (And.intro rfl ?_)
  show WG _ 200 56 [vr 53] [] _ _ _
  exact wg_vret rfl rfl HH
theorem con_25 {N : Nat} {h : HP} {Q : aQ} (HH : Q none (SH0 N ++ [(20, 11), (0, 10), (11, 10), (0, 100), (0, 100), (0, 100), (0, 100), (4, 20), (0, 5), (0, 5), (0, 5), (0, 5), (0, 5), (0, 5), (0, 5), (0, 5), (0, 5), (0, 5), (0, 5), (0, 5), (0, 5), (0, 5), (0, 5), (0, 5), (0, 5), (0, 5), (0, 5), (0, 5), (0, 20), (0, 20), (12, 5), (15, 7), (0, 20), (0, 20), (0, 20), (0, 20), (0, 20), (0, 20), (3, 2), (16, 9), (0, 50), (0, 8), (0, 8), (19, 5), (1, 9), (1, 9), (1, 5), (16, 9), (0, 50), (0, 8), (0, 8), (19, 5), (1, 9), (1, 9), (1, 5)]) (upd2 (upd2 (upd2 (upd2 (upd2 (new0 (upd2 (new0 (upd2 (new0 (new0 (upd2 (new0 (upd2 (new0 (upd2 (new0 h 54) 53 0 54) 55) 53 1 55) 56) 53 2 56) 57) 58) 57 0 58) 59) 57 1 59) 60) 57 2 60) 53 3 57) 53 6 (-1)) 53 7 99) 53 8 99)) : WG 1 200 0 [vr 53] [] (SH0 N ++ [(20, 11), (0, 10), (11, 10), (0, 100), (0, 100), (0, 100), (0, 100), (4, 20), (0, 5), (0, 5), (0, 5), (0, 5), (0, 5), (0, 5), (0, 5), (0, 5), (0, 5), (0, 5), (0, 5), (0, 5), (0, 5), (0, 5), (0, 5), (0, 5), (0, 5), (0, 5), (0, 5), (0, 5), (0, 20), (0, 20), (12, 5), (15, 7), (0, 20), (0, 20), (0, 20), (0, 20), (0, 20), (0, 20), (3, 2), (16, 9), (0, 50), (0, 8), (0, 8), (19, 5), (1, 9), (1, 9), (1, 5), (16, 9)]) h Q := by
  refine con_21  ?_
  refine con_22  ?_
  refine con_24  ?_
  exact HH
theorem con_30 {N : Nat} {h : HP} {Q : aQ} (HH : Q none (SH0 N ++ [(20, 11), (0, 10), (11, 10), (0, 100), (0, 100), (0, 100), (0, 100), (4, 20), (0, 5), (0, 5), (0, 5), (0, 5), (0, 5), (0, 5), (0, 5), (0, 5), (0, 5), (0, 5), (0, 5), (0, 5), (0, 5), (0, 5), (0, 5), (0, 5), (0, 5), (0, 5), (0, 5), (0, 5), (0, 20), (0, 20), (12, 5), (15, 7), (0, 20), (0, 20), (0, 20), (0, 20), (0, 20), (0, 20), (3, 2), (16, 9), (0, 50), (0, 8), (0, 8), (19, 5), (1, 9), (1, 9), (1, 5), (16, 9), (0, 50), (0, 8), (0, 8), (19, 5), (1, 9), (1, 9), (1, 5), (14, 3), (15, 7), (0, 20), (0, 20), (0, 20), (0, 20), (0, 20), (0, 20)]) (upd2 (new0 (upd2 (new0 (upd2 (new0 (upd2 (new0 (upd2 (new0 (upd2 (new0 h 63) 62 0 63) 64) 62 1 64) 65) 62 2 65) 66) 62 3 66) 67) 62 4 67) 68) 62 5 68)) : WG 0 187 0 [vr 62] [] (SH0 N ++ [(20, 11), (0, 10), (11, 10), (0, 100), (0, 100), (0, 100), (0, 100), (4, 20), (0, 5), (0, 5), (0, 5), (0, 5), (0, 5), (0, 5), (0, 5), (0, 5), (0, 5), (0, 5), (0, 5), (0, 5), (0, 5), (0, 5), (0, 5), (0, 5), (0, 5), (0, 5), (0, 5), (0, 5), (0, 20), (0, 20), (12, 5), (15, 7), (0, 20), (0, 20), (0, 20), (0, 20), (0, 20), (0, 20), (3, 2), (16, 9), (0, 50), (0, 8), (0, 8), (19, 5), (1, 9), (1, 9), (1, 5), (16, 9), (0, 50), (0, 8), (0, 8), (19, 5), (1, 9), (1, 9), (1, 5), (14, 3), (15, 7)]) h Q := by
  refine wg_step rfl rfl ?_
  show WG _ 187 1 [vr 62] [vr 62] _ _ _
  refine wg_step rfl rfl (And.intro (And.intro (Nat.le_of_ble_eq_true rfl) (Nat.le_of_ble_eq_true rfl)) ?_)
  show WG _ 187 4 [vr 62] [] _ _ _
  refine wg_step rfl rfl ?_
  show WG _ 187 5 [vr 62] [vr 62] _ _ _
  refine wg_step rfl rfl ?_
  show WG _ 187 7 [vr 62] [vi 20, vr 62] _ _ _
  refine wg_step rfl rfl (And.intro (And.intro (show (0 : Int) ≤ (20 : Int) by decide) (show (20 : Int) ≤ 10000 by decide)) ?_)
  show WG _ 187 9 [vr 62] [vr 63, vr 62] _ _ _
  refine wg_step rfl rfl (And.intro rfl ?_)
  show WG _ 187 12 [vr 62] [] _ _ _
  refine wg_step rfl rfl ?_
  show WG _ 187 13 [vr 62] [vr 62] _ _ _
  refine wg_step rfl rfl ?_
  show WG _ 187 15 [vr 62] [vi 20, vr 62] _ _ _
  refine wg_step rfl rfl (And.intro (And.intro (show (0 : Int) ≤ (20 : Int) by decide) (show (20 : Int) ≤ 10000 by decide)) ?_)
  show WG _ 187 17 [vr 62] [vr 64, vr 62] _ _ _
  refine wg_step rfl rfl (And.intro rfl ?_)
  show WG _ 187 20 [vr 62] [] _ _ _
  refine wg_step rfl rfl ?_
  show WG _ 187 21 [vr 62] [vr 62] _ _ _
  refine wg_step rfl rfl ?_
  show WG _ 187 23 [vr 62] [vi 20, vr 62] _ _ _
  refine wg_step rfl rfl (And.intro (And.intro (show (0 : Int) ≤ (20 : Int) by decide) (show (20 : Int) ≤ 10000 by decide)) ?_)
  show WG _ 187 25 [vr 62] [vr 65, vr 62] _ _ _
  refine wg_step rfl rfl (And.intro rfl ?_)
  show WG _ 187 28 [vr 62] [] _ _ _
  refine wg_step rfl rfl ?_
  show WG _ 187 29 [vr 62] [vr 62] _ _ _
  refine wg_step rfl rfl ?_
  show WG _ 187 31 [vr 62] [vi 20, vr 62] _ _ _
  refine wg_step rfl rfl (And.intro (And.intro (show (0 : Int) ≤ (20 : Int) by decide) (show (20 : Int) ≤ 10000 by decide)) ?_)
  show WG _ 187 33 [vr 62] [vr 66, vr 62] _ _ _
  refine wg_step rfl rfl (And.intro rfl ?_)
  show WG _ 187 36 [vr 62] [] _ _ _
  refine wg_step rfl rfl ?_
  show WG _ 187 37 [vr 62] [vr 62] _ _ _
  refine wg_step rfl rfl ?_
  show WG _ 187 39 [vr 62] [vi 20, vr 62] _ _ _
  refine wg_step rfl rfl (And.intro (And.intro (show (0 : Int) ≤ (20 : Int) by decide) (show (20 : Int) ≤ 10000 by decide)) ?_)
  show WG _ 187 41 [vr 62] [vr 67, vr 62] _ _ _
  refine wg_step rfl rfl (And.intro rfl ?_)
  show WG _ 187 44 [vr 62] [] _ _ _
  refine wg_step rfl rfl ?_
  show WG _ 187 45 [vr 62] [vr 62] _ _ _
  refine wg_step rfl rfl ?_
  show WG _ 187 47 [vr 62] [vi 20, vr 62] _ _ _
  refine wg_step rfl rfl (And.intro (And.intro (show (0 : Int) ≤ (20 : Int) by decide) (show (20 : Int) ≤ 10000 by decide)) ?_)
  show WG _ 187 49 [vr 62] [vr 68, vr 62] _ _ _
  refine wg_step rfl rfl (And.intro rfl ?_)
  show WG _ 187 52 [vr 62] [] _ _ _
  exact wg_vret rfl rfl HH
theorem con_28 {N : Nat} {h : HP} {Q : aQ} (HH : WG 1 183 9 [vr 61, vr 37] [vr 62, vr 62, vr 61] (SH0 N ++ [(20, 11), (0, 10), (11, 10), (0, 100), (0, 100), (0, 100), (0, 100), (4, 20), (0, 5), (0, 5), (0, 5), (0, 5), (0, 5), (0, 5), (0, 5), (0, 5), (0, 5), (0, 5), (0, 5), (0, 5), (0, 5), (0, 5), (0, 5), (0, 5), (0, 5), (0, 5), (0, 5), (0, 5), (0, 20), (0, 20), (12, 5), (15, 7), (0, 20), (0, 20), (0, 20), (0, 20), (0, 20), (0, 20), (3, 2), (16, 9), (0, 50), (0, 8), (0, 8), (19, 5), (1, 9), (1, 9), (1, 5), (16, 9), (0, 50), (0, 8), (0, 8), (19, 5), (1, 9), (1, 9), (1, 5), (14, 3), (15, 7)]) (new0 h 62) Q) : WG 1 183 0 [vr 61, vr 37] [] (SH0 N ++ [(20, 11), (0, 10), (11, 10), (0, 100), (0, 100), (0, 100), (0, 100), (4, 20), (0, 5), (0, 5), (0, 5), (0, 5), (0, 5), (0, 5), (0, 5), (0, 5), (0, 5), (0, 5), (0, 5), (0, 5), (0, 5), (0, 5), (0, 5), (0, 5), (0, 5), (0, 5), (0, 5), (0, 5), (0, 20), (0, 20), (12, 5), (15, 7), (0, 20), (0, 20), (0, 20), (0, 20), (0, 20), (0, 20), (3, 2), (16, 9), (0, 50), (0, 8), (0, 8), (19, 5), (1, 9), (1, 9), (1, 5), (16, 9), (0, 50), (0, 8), (0, 8), (19, 5), (1, 9), (1, 9), (1, 5), (14, 3)]) h Q := by
  refine wg_step rfl rfl ?_
  show WG _ 183 1 [vr 61, vr 37] [vr 61] _ _ _
  refine wg_step rfl rfl (And.intro (And.intro (Nat.le_of_ble_eq_true rfl) (Nat.le_of_ble_eq_true rfl)) ?_)
  show WG _ 183 4 [vr 61, vr 37] [] _ _ _
  refine wg_step rfl rfl ?_
  show WG _ 183 5 [vr 61, vr 37] [vr 61] _ _ _
  refine wg_step rfl rfl ?_
  show WG _ 183 8 [vr 61, vr 37] [vr 62, vr 61] _ _ _
  refine wg_step rfl rfl ?_
  show WG _ 183 9 [vr 61, vr 37] [vr 62, vr 62, vr 61] _ _ _
  exact HH
theorem con_29 {N : Nat} {h : HP} {Q : aQ} (HH : WG 1 183 12 [vr 61, vr 37] [vr 62, vr 61] (SH0 N ++ [(20, 11), (0, 10), (11, 10), (0, 100), (0, 100), (0, 100), (0, 100), (4, 20), (0, 5), (0, 5), (0, 5), (0, 5), (0, 5), (0, 5), (0, 5), (0, 5), (0, 5), (0, 5), (0, 5), (0, 5), (0, 5), (0, 5), (0, 5), (0, 5), (0, 5), (0, 5), (0, 5), (0, 5), (0, 20), (0, 20), (12, 5), (15, 7), (0, 20), (0, 20), (0, 20), (0, 20), (0, 20), (0, 20), (3, 2), (16, 9), (0, 50), (0, 8), (0, 8), (19, 5), (1, 9), (1, 9), (1, 5), (16, 9), (0, 50), (0, 8), (0, 8), (19, 5), (1, 9), (1, 9), (1, 5), (14, 3), (15, 7), (0, 20), (0, 20), (0, 20), (0, 20), (0, 20), (0, 20)]) (upd2 (new0 (upd2 (new0 (upd2 (new0 (upd2 (new0 (upd2 (new0 (upd2 (new0 h 63) 62 0 63) 64) 62 1 64) 65) 62 2 65) 66) 62 3 66) 67) 62 4 67) 68) 62 5 68) Q) : WG 1 183 9 [vr 61, vr 37] [vr 62, vr 62, vr 61] (SH0 N ++ [(20, 11), (0, 10), (11, 10), (0, 100), (0, 100), (0, 100), (0, 100), (4, 20), (0, 5), (0, 5), (0, 5), (0, 5), (0, 5), (0, 5), (0, 5), (0, 5), (0, 5), (0, 5), (0, 5), (0, 5), (0, 5), (0, 5), (0, 5), (0, 5), (0, 5), (0, 5), (0, 5), (0, 5), (0, 20), (0, 20), (12, 5), (15, 7), (0, 20), (0, 20), (0, 20), (0, 20), (0, 20), (0, 20), (3, 2), (16, 9), (0, 50), (0, 8), (0, 8), (19, 5), (1, 9), (1, 9), (1, 5), (16, 9), (0, 50), (0, 8), (0, 8), (19, 5), (1, 9), (1, 9), (1, 5), (14, 3), (15, 7)]) h Q := by
  refine wg_call (k := 187) rfl rfl (Nat.le_of_ble_eq_true rfl) (Nat.le_of_ble_eq_true rfl) (Nat.le_of_ble_eq_true rfl) (rcv_V rfl rfl) ?_
  show WG 0 187 0 [vr 62] [] (SH0 N ++ [(20, 11), (0, 10), (11, 10), (0, 100), (0, 100), (0, 100), (0, 100), (4, 20), (0, 5), (0, 5), (0, 5), (0, 5), (0, 5), (0, 5), (0, 5), (0, 5), (0, 5), (0, 5), (0, 5), (0, 5), (0, 5), (0, 5), (0, 5), (0, 5), (0, 5), (0, 5), (0, 5), (0, 5), (0, 20), (0, 20), (12, 5), (15, 7), (0, 20), (0, 20), (0, 20), (0, 20), (0, 20), (0, 20), (3, 2), (16, 9), (0, 50), (0, 8), (0, 8), (19, 5), (1, 9), (1, 9), (1, 5), (16, 9), (0, 50), (0, 8), (0, 8), (19, 5), (1, 9), (1, 9), (1, 5), (14, 3), (15, 7)]) h _
  refine con_30  ?_
  show WG _ 183 12 [vr 61, vr 37] [vr 62, vr 61] _ _ _
  exact HH
theorem con_31 {N : Nat} {h : HP} {Q : aQ} (HH : Q none (SH0 N ++ [(20, 11), (0, 10), (11, 10), (0, 100), (0, 100), (0, 100), (0, 100), (4, 20), (0, 5), (0, 5), (0, 5), (0, 5), (0, 5), (0, 5), (0, 5), (0, 5), (0, 5), (0, 5), (0, 5), (0, 5), (0, 5), (0, 5), (0, 5), (0, 5), (0, 5), (0, 5), (0, 5), (0, 5), (0, 20), (0, 20), (12, 5), (15, 7), (0, 20), (0, 20), (0, 20), (0, 20), (0, 20), (0, 20), (3, 2), (16, 9), (0, 50), (0, 8), (0, 8), (19, 5), (1, 9), (1, 9), (1, 5), (16, 9), (0, 50), (0, 8), (0, 8), (19, 5), (1, 9), (1, 9), (1, 5), (14, 3), (15, 7), (0, 20), (0, 20), (0, 20), (0, 20), (0, 20), (0, 20)]) (upd2 (upd2 h 61 0 62) 61 1 37)) : WG 1 183 12 [vr 61, vr 37] [vr 62, vr 61] (SH0 N ++ [(20, 11), (0, 10), (11, 10), (0, 100), (0, 100), (0, 100), (0, 100), (4, 20), (0, 5), (0, 5), (0, 5), (0, 5), (0, 5), (0, 5), (0, 5), (0, 5), (0, 5), (0, 5), (0, 5), (0, 5), (0, 5), (0, 5), (0, 5), (0, 5), (0, 5), (0, 5), (0, 5), (0, 5), (0, 20), (0, 20), (12, 5), (15, 7), (0, 20), (0, 20), (0, 20), (0, 20), (0, 20), (0, 20), (3, 2), (16, 9), (0, 50), (0, 8), (0, 8), (19, 5), (1, 9), (1, 9), (1, 5), (16, 9), (0, 50), (0, 8), (0, 8), (19, 5), (1, 9), (1, 9), (1, 5), (14, 3), (15, 7), (0, 20), (0, 20), (0, 20), (0, 20), (0, 20), (0, 20)]) h Q := by
  refine wg_step rfl rfl (And.intro rfl ?_)
  show WG _ 183 15 [vr 61, vr 37] [] _ _ _
  refine wg_step rfl rfl ?_
  show WG _ 183 16 [vr 61, vr 37] [vr 61] _ _ _
  refine wg_step rfl rfl ?_
  show WG _ 183 17 [vr 61, vr 37] [vr 37, vr 61] _ _ _
  refine wg_step rfl rfl (And.intro rfl ?_)
  show WG _ 183 20 [vr 61, vr 37] [] _ _ _
  exact wg_vret rfl rfl HH
theorem con_32 {N : Nat} {h : HP} {Q : aQ} (HH : Q none (SH0 N ++ [(20, 11), (0, 10), (11, 10), (0, 100), (0, 100), (0, 100), (0, 100), (4, 20), (0, 5), (0, 5), (0, 5), (0, 5), (0, 5), (0, 5), (0, 5), (0, 5), (0, 5), (0, 5), (0, 5), (0, 5), (0, 5), (0, 5), (0, 5), (0, 5), (0, 5), (0, 5), (0, 5), (0, 5), (0, 20), (0, 20), (12, 5), (15, 7), (0, 20), (0, 20), (0, 20), (0, 20), (0, 20), (0, 20), (3, 2), (16, 9), (0, 50), (0, 8), (0, 8), (19, 5), (1, 9), (1, 9), (1, 5), (16, 9), (0, 50), (0, 8), (0, 8), (19, 5), (1, 9), (1, 9), (1, 5), (14, 3), (15, 7), (0, 20), (0, 20), (0, 20), (0, 20), (0, 20), (0, 20)]) (upd2 (upd2 (upd2 (new0 (upd2 (new0 (upd2 (new0 (upd2 (new0 (upd2 (new0 (upd2 (new0 (new0 h 62) 63) 62 0 63) 64) 62 1 64) 65) 62 2 65) 66) 62 3 66) 67) 62 4 67) 68) 62 5 68) 61 0 62) 61 1 37)) : WG 1 183 0 [vr 61, vr 37] [] (SH0 N ++ [(20, 11), (0, 10), (11, 10), (0, 100), (0, 100), (0, 100), (0, 100), (4, 20), (0, 5), (0, 5), (0, 5), (0, 5), (0, 5), (0, 5), (0, 5), (0, 5), (0, 5), (0, 5), (0, 5), (0, 5), (0, 5), (0, 5), (0, 5), (0, 5), (0, 5), (0, 5), (0, 5), (0, 5), (0, 20), (0, 20), (12, 5), (15, 7), (0, 20), (0, 20), (0, 20), (0, 20), (0, 20), (0, 20), (3, 2), (16, 9), (0, 50), (0, 8), (0, 8), (19, 5), (1, 9), (1, 9), (1, 5), (16, 9), (0, 50), (0, 8), (0, 8), (19, 5), (1, 9), (1, 9), (1, 5), (14, 3)]) h Q := by
  refine con_28  ?_
  refine con_29  ?_
  refine con_31  ?_
  exact HH
theorem con_35 {N : Nat} {h : HP} {Q : aQ} (HH : WG 0 173 64 [vr 69] [vr 72, vr 69] (SH0 N ++ [(20, 11), (0, 10), (11, 10), (0, 100), (0, 100), (0, 100), (0, 100), (4, 20), (0, 5), (0, 5), (0, 5), (0, 5), (0, 5), (0, 5), (0, 5), (0, 5), (0, 5), (0, 5), (0, 5), (0, 5), (0, 5), (0, 5), (0, 5), (0, 5), (0, 5), (0, 5), (0, 5), (0, 5), (0, 20), (0, 20), (12, 5), (15, 7), (0, 20), (0, 20), (0, 20), (0, 20), (0, 20), (0, 20), (3, 2), (16, 9), (0, 50), (0, 8), (0, 8), (19, 5), (1, 9), (1, 9), (1, 5), (16, 9), (0, 50), (0, 8), (0, 8), (19, 5), (1, 9), (1, 9), (1, 5), (14, 3), (15, 7), (0, 20), (0, 20), (0, 20), (0, 20), (0, 20), (0, 20), (13, 7), (0, 8), (0, 8), (1, 4096)]) (new0 (upd2 (new0 (upd2 (upd2 (upd2 (upd2 (upd2 (upd2 (upd2 (upd2 (upd2 (new0 h 70) 70 0 0) 70 1 2) 70 2 9) 70 3 21) 70 4 21) 70 5 9) 70 6 2) 70 7 0) 69 0 70) 71) 69 1 71) 72) Q) : WG 0 173 0 [vr 69] [] (SH0 N ++ [(20, 11), (0, 10), (11, 10), (0, 100), (0, 100), (0, 100), (0, 100), (4, 20), (0, 5), (0, 5), (0, 5), (0, 5), (0, 5), (0, 5), (0, 5), (0, 5), (0, 5), (0, 5), (0, 5), (0, 5), (0, 5), (0, 5), (0, 5), (0, 5), (0, 5), (0, 5), (0, 5), (0, 5), (0, 20), (0, 20), (12, 5), (15, 7), (0, 20), (0, 20), (0, 20), (0, 20), (0, 20), (0, 20), (3, 2), (16, 9), (0, 50), (0, 8), (0, 8), (19, 5), (1, 9), (1, 9), (1, 5), (16, 9), (0, 50), (0, 8), (0, 8), (19, 5), (1, 9), (1, 9), (1, 5), (14, 3), (15, 7), (0, 20), (0, 20), (0, 20), (0, 20), (0, 20), (0, 20), (13, 7)]) h Q := by
  refine wg_step rfl rfl ?_
  show WG _ 173 1 [vr 69] [vr 69] _ _ _
  refine wg_step rfl rfl (And.intro (And.intro (Nat.le_of_ble_eq_true rfl) (Nat.le_of_ble_eq_true rfl)) ?_)
  show WG _ 173 4 [vr 69] [] _ _ _
  refine wg_step rfl rfl ?_
  show WG _ 173 5 [vr 69] [vr 69] _ _ _
  refine wg_step rfl rfl ?_
  show WG _ 173 7 [vr 69] [vi 8, vr 69] _ _ _
  refine wg_step rfl rfl (And.intro (And.intro (show (0 : Int) ≤ (8 : Int) by decide) (show (8 : Int) ≤ 10000 by decide)) ?_)
  show WG _ 173 9 [vr 69] [vr 70, vr 69] _ _ _
  refine wg_step rfl rfl ?_
  show WG _ 173 10 [vr 69] [vr 70, vr 70, vr 69] _ _ _
  refine wg_step rfl rfl ?_
  show WG _ 173 11 [vr 69] [vi 0, vr 70, vr 70, vr 69] _ _ _
  refine wg_step rfl rfl ?_
  show WG _ 173 12 [vr 69] [vi 0, vi 0, vr 70, vr 70, vr 69] _ _ _
  refine wg_step rfl rfl (And.intro (And.intro rfl (And.intro (show (0 : Int) ≤ (0 : Int) by decide) (show (0 : Int) < ((8 : Nat) : Int) by decide))) ?_)
  show WG _ 173 13 [vr 69] [vr 70, vr 69] _ _ _
  refine wg_step rfl rfl ?_
  show WG _ 173 14 [vr 69] [vr 70, vr 70, vr 69] _ _ _
  refine wg_step rfl rfl ?_
  show WG _ 173 15 [vr 69] [vi 1, vr 70, vr 70, vr 69] _ _ _
  refine wg_step rfl rfl ?_
  show WG _ 173 16 [vr 69] [vi 2, vi 1, vr 70, vr 70, vr 69] _ _ _
  refine wg_step rfl rfl (And.intro (And.intro rfl (And.intro (show (0 : Int) ≤ (1 : Int) by decide) (show (1 : Int) < ((8 : Nat) : Int) by decide))) ?_)
  show WG _ 173 17 [vr 69] [vr 70, vr 69] _ _ _
  refine wg_step rfl rfl ?_
  show WG _ 173 18 [vr 69] [vr 70, vr 70, vr 69] _ _ _
  refine wg_step rfl rfl ?_
  show WG _ 173 19 [vr 69] [vi 2, vr 70, vr 70, vr 69] _ _ _
  refine wg_step rfl rfl ?_
  show WG _ 173 21 [vr 69] [vi 9, vi 2, vr 70, vr 70, vr 69] _ _ _
  refine wg_step rfl rfl (And.intro (And.intro rfl (And.intro (show (0 : Int) ≤ (2 : Int) by decide) (show (2 : Int) < ((8 : Nat) : Int) by decide))) ?_)
  show WG _ 173 22 [vr 69] [vr 70, vr 69] _ _ _
  refine wg_step rfl rfl ?_
  show WG _ 173 23 [vr 69] [vr 70, vr 70, vr 69] _ _ _
  refine wg_step rfl rfl ?_
  show WG _ 173 24 [vr 69] [vi 3, vr 70, vr 70, vr 69] _ _ _
  refine wg_step rfl rfl ?_
  show WG _ 173 26 [vr 69] [vi 21, vi 3, vr 70, vr 70, vr 69] _ _ _
  refine wg_step rfl rfl (And.intro (And.intro rfl (And.intro (show (0 : Int) ≤ (3 : Int) by decide) (show (3 : Int) < ((8 : Nat) : Int) by decide))) ?_)
  show WG _ 173 27 [vr 69] [vr 70, vr 69] _ _ _
  refine wg_step rfl rfl ?_
  show WG _ 173 28 [vr 69] [vr 70, vr 70, vr 69] _ _ _
  refine wg_step rfl rfl ?_
  show WG _ 173 29 [vr 69] [vi 4, vr 70, vr 70, vr 69] _ _ _
  refine wg_step rfl rfl ?_
  show WG _ 173 31 [vr 69] [vi 21, vi 4, vr 70, vr 70, vr 69] _ _ _
  refine wg_step rfl rfl (And.intro (And.intro rfl (And.intro (show (0 : Int) ≤ (4 : Int) by decide) (show (4 : Int) < ((8 : Nat) : Int) by decide))) ?_)
  show WG _ 173 32 [vr 69] [vr 70, vr 69] _ _ _
  refine wg_step rfl rfl ?_
  show WG _ 173 33 [vr 69] [vr 70, vr 70, vr 69] _ _ _
  refine wg_step rfl rfl ?_
  show WG _ 173 34 [vr 69] [vi 5, vr 70, vr 70, vr 69] _ _ _
  refine wg_step rfl rfl ?_
  show WG _ 173 36 [vr 69] [vi 9, vi 5, vr 70, vr 70, vr 69] _ _ _
  refine wg_step rfl rfl (And.intro (And.intro rfl (And.intro (show (0 : Int) ≤ (5 : Int) by decide) (show (5 : Int) < ((8 : Nat) : Int) by decide))) ?_)
  show WG _ 173 37 [vr 69] [vr 70, vr 69] _ _ _
  refine wg_step rfl rfl ?_
  show WG _ 173 38 [vr 69] [vr 70, vr 70, vr 69] _ _ _
  refine wg_step rfl rfl ?_
  show WG _ 173 40 [vr 69] [vi 6, vr 70, vr 70, vr 69] _ _ _
  refine wg_step rfl rfl ?_
  show WG _ 173 41 [vr 69] [vi 2, vi 6, vr 70, vr 70, vr 69] _ _ _
  refine wg_step rfl rfl (And.intro (And.intro rfl (And.intro (show (0 : Int) ≤ (6 : Int) by decide) (show (6 : Int) < ((8 : Nat) : Int) by decide))) ?_)
  show WG _ 173 42 [vr 69] [vr 70, vr 69] _ _ _
  refine wg_step rfl rfl ?_
  show WG _ 173 43 [vr 69] [vr 70, vr 70, vr 69] _ _ _
  refine wg_step rfl rfl ?_
  show WG _ 173 45 [vr 69] [vi 7, vr 70, vr 70, vr 69] _ _ _
  refine wg_step rfl rfl ?_
  show WG _ 173 46 [vr 69] [vi 0, vi 7, vr 70, vr 70, vr 69] _ _ _
  refine wg_step rfl rfl (And.intro (And.intro rfl (And.intro (show (0 : Int) ≤ (7 : Int) by decide) (show (7 : Int) < ((8 : Nat) : Int) by decide))) ?_)
  show WG _ 173 47 [vr 69] [vr 70, vr 69] _ _ _
  refine wg_step rfl rfl (And.intro rfl ?_)
  show WG _ 173 50 [vr 69] [] _ _ _
  refine wg_step rfl rfl ?_
  show WG _ 173 51 [vr 69] [vr 69] _ _ _
  refine wg_step rfl rfl ?_
  show WG _ 173 53 [vr 69] [vi 8, vr 69] _ _ _
  refine wg_step rfl rfl (And.intro (And.intro (show (0 : Int) ≤ (8 : Int) by decide) (show (8 : Int) ≤ 10000 by decide)) ?_)
  show WG _ 173 55 [vr 69] [vr 71, vr 69] _ _ _
  refine wg_step rfl rfl (And.intro rfl ?_)
  show WG _ 173 58 [vr 69] [] _ _ _
  refine wg_step rfl rfl ?_
  show WG _ 173 59 [vr 69] [vr 69] _ _ _
  refine wg_step rfl rfl ?_
  show WG _ 173 62 [vr 69] [vi 4096, vr 69] _ _ _
  refine wg_step rfl rfl (And.intro (And.intro (show (0 : Int) ≤ (4096 : Int) by decide) (show (4096 : Int) ≤ 10000 by decide)) ?_)
  show WG _ 173 64 [vr 69] [vr 72, vr 69] _ _ _
  exact HH
theorem con_36 {N : Nat} {h : HP} {Q : aQ} (HH : Q none (SH0 N ++ [(20, 11), (0, 10), (11, 10), (0, 100), (0, 100), (0, 100), (0, 100), (4, 20), (0, 5), (0, 5), (0, 5), (0, 5), (0, 5), (0, 5), (0, 5), (0, 5), (0, 5), (0, 5), (0, 5), (0, 5), (0, 5), (0, 5), (0, 5), (0, 5), (0, 5), (0, 5), (0, 5), (0, 5), (0, 20), (0, 20), (12, 5), (15, 7), (0, 20), (0, 20), (0, 20), (0, 20), (0, 20), (0, 20), (3, 2), (16, 9), (0, 50), (0, 8), (0, 8), (19, 5), (1, 9), (1, 9), (1, 5), (16, 9), (0, 50), (0, 8), (0, 8), (19, 5), (1, 9), (1, 9), (1, 5), (14, 3), (15, 7), (0, 20), (0, 20), (0, 20), (0, 20), (0, 20), (0, 20), (13, 7), (0, 8), (0, 8), (1, 4096), (1, 4096)]) (upd2 (upd2 (new0 (upd2 h 69 2 72) 73) 69 3 73) 69 6 1)) : WG 0 173 64 [vr 69] [vr 72, vr 69] (SH0 N ++ [(20, 11), (0, 10), (11, 10), (0, 100), (0, 100), (0, 100), (0, 100), (4, 20), (0, 5), (0, 5), (0, 5), (0, 5), (0, 5), (0, 5), (0, 5), (0, 5), (0, 5), (0, 5), (0, 5), (0, 5), (0, 5), (0, 5), (0, 5), (0, 5), (0, 5), (0, 5), (0, 5), (0, 5), (0, 20), (0, 20), (12, 5), (15, 7), (0, 20), (0, 20), (0, 20), (0, 20), (0, 20), (0, 20), (3, 2), (16, 9), (0, 50), (0, 8), (0, 8), (19, 5), (1, 9), (1, 9), (1, 5), (16, 9), (0, 50), (0, 8), (0, 8), (19, 5), (1, 9), (1, 9), (1, 5), (14, 3), (15, 7), (0, 20), (0, 20), (0, 20), (0, 20), (0, 20), (0, 20), (13, 7), (0, 8), (0, 8), (1, 4096)]) h Q := by
  refine wg_step rfl rfl (And.intro rfl ?_)
  show WG _ 173 67 [vr 69] [] _ _ _
  refine wg_step rfl rfl ?_
  show WG _ 173 68 [vr 69] [vr 69] _ _ _
  refine wg_step rfl rfl ?_
  show WG _ 173 71 [vr 69] [vi 4096, vr 69] _ _ _
  refine wg_step rfl rfl (And.intro (And.intro (show (0 : Int) ≤ (4096 : Int) by decide) (show (4096 : Int) ≤ 10000 by decide)) ?_)
  show WG _ 173 73 [vr 69] [vr 73, vr 69] _ _ _
  refine wg_step rfl rfl (And.intro rfl ?_)
  show WG _ 173 76 [vr 69] [] _ _ _
  refine wg_step rfl rfl ?_
  show WG _ 173 77 [vr 69] [vr 69] _ _ _
  refine wg_step rfl rfl ?_
  show WG _ 173 78 [vr 69] [vl 1, vr 69] _ _ _
  refine wg_step rfl rfl (And.intro rfl ?_)
  show WG _ 173 81 [vr 69] [] _ _ _
  exact wg_vret rfl rfl HH
theorem con_37 {N : Nat} {h : HP} {Q : aQ} (HH : Q none (SH0 N ++ [(20, 11), (0, 10), (11, 10), (0, 100), (0, 100), (0, 100), (0, 100), (4, 20), (0, 5), (0, 5), (0, 5), (0, 5), (0, 5), (0, 5), (0, 5), (0, 5), (0, 5), (0, 5), (0, 5), (0, 5), (0, 5), (0, 5), (0, 5), (0, 5), (0, 5), (0, 5), (0, 5), (0, 5), (0, 20), (0, 20), (12, 5), (15, 7), (0, 20), (0, 20), (0, 20), (0, 20), (0, 20), (0, 20), (3, 2), (16, 9), (0, 50), (0, 8), (0, 8), (19, 5), (1, 9), (1, 9), (1, 5), (16, 9), (0, 50), (0, 8), (0, 8), (19, 5), (1, 9), (1, 9), (1, 5), (14, 3), (15, 7), (0, 20), (0, 20), (0, 20), (0, 20), (0, 20), (0, 20), (13, 7), (0, 8), (0, 8), (1, 4096), (1, 4096)]) (upd2 (upd2 (new0 (upd2 (new0 (upd2 (new0 (upd2 (upd2 (upd2 (upd2 (upd2 (upd2 (upd2 (upd2 (upd2 (new0 h 70) 70 0 0) 70 1 2) 70 2 9) 70 3 21) 70 4 21) 70 5 9) 70 6 2) 70 7 0) 69 0 70) 71) 69 1 71) 72) 69 2 72) 73) 69 3 73) 69 6 1)) : WG 0 173 0 [vr 69] [] (SH0 N ++ [(20, 11), (0, 10), (11, 10), (0, 100), (0, 100), (0, 100), (0, 100), (4, 20), (0, 5), (0, 5), (0, 5), (0, 5), (0, 5), (0, 5), (0, 5), (0, 5), (0, 5), (0, 5), (0, 5), (0, 5), (0, 5), (0, 5), (0, 5), (0, 5), (0, 5), (0, 5), (0, 5), (0, 5), (0, 20), (0, 20), (12, 5), (15, 7), (0, 20), (0, 20), (0, 20), (0, 20), (0, 20), (0, 20), (3, 2), (16, 9), (0, 50), (0, 8), (0, 8), (19, 5), (1, 9), (1, 9), (1, 5), (16, 9), (0, 50), (0, 8), (0, 8), (19, 5), (1, 9), (1, 9), (1, 5), (14, 3), (15, 7), (0, 20), (0, 20), (0, 20), (0, 20), (0, 20), (0, 20), (13, 7)]) h Q := by
  refine con_35  ?_
  refine con_36  ?_
  exact HH
theorem con_40 {N : Nat} {h : HP} {Q : aQ} (HH : Q none (SH0 N ++ [(20, 11), (0, 10), (11, 10), (0, 100), (0, 100), (0, 100), (0, 100), (4, 20), (0, 5), (0, 5), (0, 5), (0, 5), (0, 5), (0, 5), (0, 5), (0, 5), (0, 5), (0, 5), (0, 5), (0, 5), (0, 5), (0, 5), (0, 5), (0, 5), (0, 5), (0, 5), (0, 5), (0, 5), (0, 20), (0, 20), (12, 5), (15, 7), (0, 20), (0, 20), (0, 20), (0, 20), (0, 20), (0, 20), (3, 2), (16, 9), (0, 50), (0, 8), (0, 8), (19, 5), (1, 9), (1, 9), (1, 5), (16, 9), (0, 50), (0, 8), (0, 8), (19, 5), (1, 9), (1, 9), (1, 5), (14, 3), (15, 7), (0, 20), (0, 20), (0, 20), (0, 20), (0, 20), (0, 20), (13, 7), (0, 8), (0, 8), (1, 4096), (1, 4096), (18, 3), (0, 20), (0, 20)]) (upd2 (new0 (upd2 (new0 h 75) 74 0 75) 76) 74 1 76)) : WG 0 230 0 [vr 74] [] (SH0 N ++ [(20, 11), (0, 10), (11, 10), (0, 100), (0, 100), (0, 100), (0, 100), (4, 20), (0, 5), (0, 5), (0, 5), (0, 5), (0, 5), (0, 5), (0, 5), (0, 5), (0, 5), (0, 5), (0, 5), (0, 5), (0, 5), (0, 5), (0, 5), (0, 5), (0, 5), (0, 5), (0, 5), (0, 5), (0, 20), (0, 20), (12, 5), (15, 7), (0, 20), (0, 20), (0, 20), (0, 20), (0, 20), (0, 20), (3, 2), (16, 9), (0, 50), (0, 8), (0, 8), (19, 5), (1, 9), (1, 9), (1, 5), (16, 9), (0, 50), (0, 8), (0, 8), (19, 5), (1, 9), (1, 9), (1, 5), (14, 3), (15, 7), (0, 20), (0, 20), (0, 20), (0, 20), (0, 20), (0, 20), (13, 7), (0, 8), (0, 8), (1, 4096), (1, 4096), (18, 3)]) h Q := by
  refine wg_step rfl rfl ?_
  show WG _ 230 1 [vr 74] [vr 74] _ _ _
  refine wg_step rfl rfl (And.intro (And.intro (Nat.le_of_ble_eq_true rfl) (Nat.le_of_ble_eq_true rfl)) ?_)
  show WG _ 230 4 [vr 74] [] _ _ _
  refine wg_step rfl rfl ?_
  show WG _ 230 5 [vr 74] [vr 74] _ _ _
  refine wg_step rfl rfl ?_
  show WG _ 230 7 [vr 74] [vi 20, vr 74] _ _ _
  refine wg_step rfl rfl (And.intro (And.intro (show (0 : Int) ≤ (20 : Int) by decide) (show (20 : Int) ≤ 10000 by decide)) ?_)
  show WG _ 230 9 [vr 74] [vr 75, vr 74] _ _ _
  refine wg_step rfl rfl (And.intro rfl ?_)
  show WG _ 230 12 [vr 74] [] _ _ _
  refine wg_step rfl rfl ?_
  show WG _ 230 13 [vr 74] [vr 74] _ _ _
  refine wg_step rfl rfl ?_
  show WG _ 230 15 [vr 74] [vi 20, vr 74] _ _ _
  refine wg_step rfl rfl (And.intro (And.intro (show (0 : Int) ≤ (20 : Int) by decide) (show (20 : Int) ≤ 10000 by decide)) ?_)
  show WG _ 230 17 [vr 74] [vr 76, vr 74] _ _ _
  refine wg_step rfl rfl (And.intro rfl ?_)
  show WG _ 230 20 [vr 74] [] _ _ _
  exact wg_vret rfl rfl HH
theorem con_43 {N : Nat} {h : HP} {Q : aQ} (HH : Q none (SH0 N ++ [(20, 11), (0, 10), (11, 10), (0, 100), (0, 100), (0, 100), (0, 100), (4, 20), (0, 5), (0, 5), (0, 5), (0, 5), (0, 5), (0, 5), (0, 5), (0, 5), (0, 5), (0, 5), (0, 5), (0, 5), (0, 5), (0, 5), (0, 5), (0, 5), (0, 5), (0, 5), (0, 5), (0, 5), (0, 20), (0, 20), (12, 5), (15, 7), (0, 20), (0, 20), (0, 20), (0, 20), (0, 20), (0, 20), (3, 2), (16, 9), (0, 50), (0, 8), (0, 8), (19, 5), (1, 9), (1, 9), (1, 5), (16, 9), (0, 50), (0, 8), (0, 8), (19, 5), (1, 9), (1, 9), (1, 5), (14, 3), (15, 7), (0, 20), (0, 20), (0, 20), (0, 20), (0, 20), (0, 20), (13, 7), (0, 8), (0, 8), (1, 4096), (1, 4096), (18, 3), (0, 20), (0, 20), (10, 3), (0, 12), (0, 12)]) (upd2 (new0 (upd2 (new0 h 78) 77 0 78) 79) 77 1 79)) : WG 0 135 0 [vr 77] [] (SH0 N ++ [(20, 11), (0, 10), (11, 10), (0, 100), (0, 100), (0, 100), (0, 100), (4, 20), (0, 5), (0, 5), (0, 5), (0, 5), (0, 5), (0, 5), (0, 5), (0, 5), (0, 5), (0, 5), (0, 5), (0, 5), (0, 5), (0, 5), (0, 5), (0, 5), (0, 5), (0, 5), (0, 5), (0, 5), (0, 20), (0, 20), (12, 5), (15, 7), (0, 20), (0, 20), (0, 20), (0, 20), (0, 20), (0, 20), (3, 2), (16, 9), (0, 50), (0, 8), (0, 8), (19, 5), (1, 9), (1, 9), (1, 5), (16, 9), (0, 50), (0, 8), (0, 8), (19, 5), (1, 9), (1, 9), (1, 5), (14, 3), (15, 7), (0, 20), (0, 20), (0, 20), (0, 20), (0, 20), (0, 20), (13, 7), (0, 8), (0, 8), (1, 4096), (1, 4096), (18, 3), (0, 20), (0, 20), (10, 3)]) h Q := by
  refine wg_step rfl rfl ?_
  show WG _ 135 1 [vr 77] [vr 77] _ _ _
  refine wg_step rfl rfl (And.intro (And.intro (Nat.le_of_ble_eq_true rfl) (Nat.le_of_ble_eq_true rfl)) ?_)
  show WG _ 135 4 [vr 77] [] _ _ _
  refine wg_step rfl rfl ?_
  show WG _ 135 5 [vr 77] [vr 77] _ _ _
  refine wg_step rfl rfl ?_
  show WG _ 135 7 [vr 77] [vi 12, vr 77] _ _ _
  refine wg_step rfl rfl (And.intro (And.intro (show (0 : Int) ≤ (12 : Int) by decide) (show (12 : Int) ≤ 10000 by decide)) ?_)
  show WG _ 135 9 [vr 77] [vr 78, vr 77] _ _ _
  refine wg_step rfl rfl (And.intro rfl ?_)
  show WG _ 135 12 [vr 77] [] _ _ _
  refine wg_step rfl rfl ?_
  show WG _ 135 13 [vr 77] [vr 77] _ _ _
  refine wg_step rfl rfl ?_
  show WG _ 135 15 [vr 77] [vi 12, vr 77] _ _ _
  refine wg_step rfl rfl (And.intro (And.intro (show (0 : Int) ≤ (12 : Int) by decide) (show (12 : Int) ≤ 10000 by decide)) ?_)
  show WG _ 135 17 [vr 77] [vr 79, vr 77] _ _ _
  refine wg_step rfl rfl (And.intro rfl ?_)
  show WG _ 135 20 [vr 77] [] _ _ _
  exact wg_vret rfl rfl HH
theorem con_46 {N : Nat} {h : HP} {Q : aQ} (HH : Q none (SH0 N ++ [(20, 11), (0, 10), (11, 10), (0, 100), (0, 100), (0, 100), (0, 100), (4, 20), (0, 5), (0, 5), (0, 5), (0, 5), (0, 5), (0, 5), (0, 5), (0, 5), (0, 5), (0, 5), (0, 5), (0, 5), (0, 5), (0, 5), (0, 5), (0, 5), (0, 5), (0, 5), (0, 5), (0, 5), (0, 20), (0, 20), (12, 5), (15, 7), (0, 20), (0, 20), (0, 20), (0, 20), (0, 20), (0, 20), (3, 2), (16, 9), (0, 50), (0, 8), (0, 8), (19, 5), (1, 9), (1, 9), (1, 5), (16, 9), (0, 50), (0, 8), (0, 8), (19, 5), (1, 9), (1, 9), (1, 5), (14, 3), (15, 7), (0, 20), (0, 20), (0, 20), (0, 20), (0, 20), (0, 20), (13, 7), (0, 8), (0, 8), (1, 4096), (1, 4096), (18, 3), (0, 20), (0, 20), (10, 3), (0, 12), (0, 12), (6, 4), (17, 3), (0, 60)]) (upd2 (upd2 (new0 h 82) 81 0 82) 81 1 (-1))) : WG 0 219 0 [vr 81] [] (SH0 N ++ [(20, 11), (0, 10), (11, 10), (0, 100), (0, 100), (0, 100), (0, 100), (4, 20), (0, 5), (0, 5), (0, 5), (0, 5), (0, 5), (0, 5), (0, 5), (0, 5), (0, 5), (0, 5), (0, 5), (0, 5), (0, 5), (0, 5), (0, 5), (0, 5), (0, 5), (0, 5), (0, 5), (0, 5), (0, 20), (0, 20), (12, 5), (15, 7), (0, 20), (0, 20), (0, 20), (0, 20), (0, 20), (0, 20), (3, 2), (16, 9), (0, 50), (0, 8), (0, 8), (19, 5), (1, 9), (1, 9), (1, 5), (16, 9), (0, 50), (0, 8), (0, 8), (19, 5), (1, 9), (1, 9), (1, 5), (14, 3), (15, 7), (0, 20), (0, 20), (0, 20), (0, 20), (0, 20), (0, 20), (13, 7), (0, 8), (0, 8), (1, 4096), (1, 4096), (18, 3), (0, 20), (0, 20), (10, 3), (0, 12), (0, 12), (6, 4), (17, 3)]) h Q := by
  refine wg_step rfl rfl ?_
  show WG _ 219 1 [vr 81] [vr 81] _ _ _
  refine wg_step rfl rfl (And.intro (And.intro (Nat.le_of_ble_eq_true rfl) (Nat.le_of_ble_eq_true rfl)) ?_)
  show WG _ 219 4 [vr 81] [] _ _ _
  refine wg_step rfl rfl ?_
  show WG _ 219 5 [vr 81] [vr 81] _ _ _
  refine wg_step rfl rfl ?_
  show WG _ 219 7 [vr 81] [vi 60, vr 81] _ _ _
  refine wg_step rfl rfl (And.intro (And.intro (show (0 : Int) ≤ (60 : Int) by decide) (show (60 : Int) ≤ 10000 by decide)) ?_)
  show WG _ 219 9 [vr 81] [vr 82, vr 81] _ _ _
  refine wg_step rfl rfl (And.intro rfl ?_)
  show WG _ 219 12 [vr 81] [] _ _ _
  refine wg_step rfl rfl ?_
  show WG _ 219 13 [vr 81] [vr 81] _ _ _
  refine wg_step rfl rfl ?_
  show WG _ 219 14 [vr 81] [vi (-1), vr 81] _ _ _
  refine wg_step rfl rfl (And.intro rfl ?_)
  show WG _ 219 17 [vr 81] [] _ _ _
  exact wg_vret rfl rfl HH
theorem con_49 {N : Nat} {h : HP} {Q : aQ} (HH : Q none (SH0 N ++ [(20, 11), (0, 10), (11, 10), (0, 100), (0, 100), (0, 100), (0, 100), (4, 20), (0, 5), (0, 5), (0, 5), (0, 5), (0, 5), (0, 5), (0, 5), (0, 5), (0, 5), (0, 5), (0, 5), (0, 5), (0, 5), (0, 5), (0, 5), (0, 5), (0, 5), (0, 5), (0, 5), (0, 5), (0, 20), (0, 20), (12, 5), (15, 7), (0, 20), (0, 20), (0, 20), (0, 20), (0, 20), (0, 20), (3, 2), (16, 9), (0, 50), (0, 8), (0, 8), (19, 5), (1, 9), (1, 9), (1, 5), (16, 9), (0, 50), (0, 8), (0, 8), (19, 5), (1, 9), (1, 9), (1, 5), (14, 3), (15, 7), (0, 20), (0, 20), (0, 20), (0, 20), (0, 20), (0, 20), (13, 7), (0, 8), (0, 8), (1, 4096), (1, 4096), (18, 3), (0, 20), (0, 20), (10, 3), (0, 12), (0, 12), (6, 4), (17, 3), (0, 60), (17, 3), (0, 60)]) (upd2 (upd2 (new0 h 84) 83 0 84) 83 1 (-1))) : WG 0 219 0 [vr 83] [] (SH0 N ++ [(20, 11), (0, 10), (11, 10), (0, 100), (0, 100), (0, 100), (0, 100), (4, 20), (0, 5), (0, 5), (0, 5), (0, 5), (0, 5), (0, 5), (0, 5), (0, 5), (0, 5), (0, 5), (0, 5), (0, 5), (0, 5), (0, 5), (0, 5), (0, 5), (0, 5), (0, 5), (0, 5), (0, 5), (0, 20), (0, 20), (12, 5), (15, 7), (0, 20), (0, 20), (0, 20), (0, 20), (0, 20), (0, 20), (3, 2), (16, 9), (0, 50), (0, 8), (0, 8), (19, 5), (1, 9), (1, 9), (1, 5), (16, 9), (0, 50), (0, 8), (0, 8), (19, 5), (1, 9), (1, 9), (1, 5), (14, 3), (15, 7), (0, 20), (0, 20), (0, 20), (0, 20), (0, 20), (0, 20), (13, 7), (0, 8), (0, 8), (1, 4096), (1, 4096), (18, 3), (0, 20), (0, 20), (10, 3), (0, 12), (0, 12), (6, 4), (17, 3), (0, 60), (17, 3)]) h Q := by
  refine wg_step rfl rfl ?_
  show WG _ 219 1 [vr 83] [vr 83] _ _ _
  refine wg_step rfl rfl (And.intro (And.intro (Nat.le_of_ble_eq_true rfl) (Nat.le_of_ble_eq_true rfl)) ?_)
  show WG _ 219 4 [vr 83] [] _ _ _
  refine wg_step rfl rfl ?_
  show WG _ 219 5 [vr 83] [vr 83] _ _ _
  refine wg_step rfl rfl ?_
  show WG _ 219 7 [vr 83] [vi 60, vr 83] _ _ _
  refine wg_step rfl rfl (And.intro (And.intro (show (0 : Int) ≤ (60 : Int) by decide) (show (60 : Int) ≤ 10000 by decide)) ?_)
  show WG _ 219 9 [vr 83] [vr 84, vr 83] _ _ _
  refine wg_step rfl rfl (And.intro rfl ?_)
  show WG _ 219 12 [vr 83] [] _ _ _
  refine wg_step rfl rfl ?_
  show WG _ 219 13 [vr 83] [vr 83] _ _ _
  refine wg_step rfl rfl ?_
  show WG _ 219 14 [vr 83] [vi (-1), vr 83] _ _ _
  refine wg_step rfl rfl (And.intro rfl ?_)
  show WG _ 219 17 [vr 83] [] _ _ _
  exact wg_vret rfl rfl HH
theorem con_52 {N : Nat} {h : HP} {Q : aQ} (HH : Q none (SH0 N ++ [(20, 11), (0, 10), (11, 10), (0, 100), (0, 100), (0, 100), (0, 100), (4, 20), (0, 5), (0, 5), (0, 5), (0, 5), (0, 5), (0, 5), (0, 5), (0, 5), (0, 5), (0, 5), (0, 5), (0, 5), (0, 5), (0, 5), (0, 5), (0, 5), (0, 5), (0, 5), (0, 5), (0, 5), (0, 20), (0, 20), (12, 5), (15, 7), (0, 20), (0, 20), (0, 20), (0, 20), (0, 20), (0, 20), (3, 2), (16, 9), (0, 50), (0, 8), (0, 8), (19, 5), (1, 9), (1, 9), (1, 5), (16, 9), (0, 50), (0, 8), (0, 8), (19, 5), (1, 9), (1, 9), (1, 5), (14, 3), (15, 7), (0, 20), (0, 20), (0, 20), (0, 20), (0, 20), (0, 20), (13, 7), (0, 8), (0, 8), (1, 4096), (1, 4096), (18, 3), (0, 20), (0, 20), (10, 3), (0, 12), (0, 12), (6, 4), (17, 3), (0, 60), (17, 3), (0, 60), (17, 3), (0, 60)]) (upd2 (upd2 (new0 h 86) 85 0 86) 85 1 (-1))) : WG 0 219 0 [vr 85] [] (SH0 N ++ [(20, 11), (0, 10), (11, 10), (0, 100), (0, 100), (0, 100), (0, 100), (4, 20), (0, 5), (0, 5), (0, 5), (0, 5), (0, 5), (0, 5), (0, 5), (0, 5), (0, 5), (0, 5), (0, 5), (0, 5), (0, 5), (0, 5), (0, 5), (0, 5), (0, 5), (0, 5), (0, 5), (0, 5), (0, 20), (0, 20), (12, 5), (15, 7), (0, 20), (0, 20), (0, 20), (0, 20), (0, 20), (0, 20), (3, 2), (16, 9), (0, 50), (0, 8), (0, 8), (19, 5), (1, 9), (1, 9), (1, 5), (16, 9), (0, 50), (0, 8), (0, 8), (19, 5), (1, 9), (1, 9), (1, 5), (14, 3), (15, 7), (0, 20), (0, 20), (0, 20), (0, 20), (0, 20), (0, 20), (13, 7), (0, 8), (0, 8), (1, 4096), (1, 4096), (18, 3), (0, 20), (0, 20), (10, 3), (0, 12), (0, 12), (6, 4), (17, 3), (0, 60), (17, 3), (0, 60), (17, 3)]) h Q := by
  refine wg_step rfl rfl ?_
  show WG _ 219 1 [vr 85] [vr 85] _ _ _
  refine wg_step rfl rfl (And.intro (And.intro (Nat.le_of_ble_eq_true rfl) (Nat.le_of_ble_eq_true rfl)) ?_)
  show WG _ 219 4 [vr 85] [] _ _ _
  refine wg_step rfl rfl ?_
  show WG _ 219 5 [vr 85] [vr 85] _ _ _
  refine wg_step rfl rfl ?_
  show WG _ 219 7 [vr 85] [vi 60, vr 85] _ _ _
  refine wg_step rfl rfl (And.intro (And.intro (show (0 : Int) ≤ (60 : Int) by decide) (show (60 : Int) ≤ 10000 by decide)) ?_)
  show WG _ 219 9 [vr 85] [vr 86, vr 85] _ _ _
  refine wg_step rfl rfl (And.intro rfl ?_)
  show WG _ 219 12 [vr 85] [] _ _ _
  refine wg_step rfl rfl ?_
  show WG _ 219 13 [vr 85] [vr 85] _ _ _
  refine wg_step rfl rfl ?_
  show WG _ 219 14 [vr 85] [vi (-1), vr 85] _ _ _
  refine wg_step rfl rfl (And.intro rfl ?_)
  show WG _ 219 17 [vr 85] [] _ _ _
  exact wg_vret rfl rfl HH
theorem con_55 {N : Nat} {h : HP} {Q : aQ} (HH : Q none (SH0 N ++ [(20, 11), (0, 10), (11, 10), (0, 100), (0, 100), (0, 100), (0, 100), (4, 20), (0, 5), (0, 5), (0, 5), (0, 5), (0, 5), (0, 5), (0, 5), (0, 5), (0, 5), (0, 5), (0, 5), (0, 5), (0, 5), (0, 5), (0, 5), (0, 5), (0, 5), (0, 5), (0, 5), (0, 5), (0, 20), (0, 20), (12, 5), (15, 7), (0, 20), (0, 20), (0, 20), (0, 20), (0, 20), (0, 20), (3, 2), (16, 9), (0, 50), (0, 8), (0, 8), (19, 5), (1, 9), (1, 9), (1, 5), (16, 9), (0, 50), (0, 8), (0, 8), (19, 5), (1, 9), (1, 9), (1, 5), (14, 3), (15, 7), (0, 20), (0, 20), (0, 20), (0, 20), (0, 20), (0, 20), (13, 7), (0, 8), (0, 8), (1, 4096), (1, 4096), (18, 3), (0, 20), (0, 20), (10, 3), (0, 12), (0, 12), (6, 4), (17, 3), (0, 60), (17, 3), (0, 60), (17, 3), (0, 60), (17, 3), (0, 60)]) (upd2 (upd2 (new0 h 88) 87 0 88) 87 1 (-1))) : WG 0 219 0 [vr 87] [] (SH0 N ++ [(20, 11), (0, 10), (11, 10), (0, 100), (0, 100), (0, 100), (0, 100), (4, 20), (0, 5), (0, 5), (0, 5), (0, 5), (0, 5), (0, 5), (0, 5), (0, 5), (0, 5), (0, 5), (0, 5), (0, 5), (0, 5), (0, 5), (0, 5), (0, 5), (0, 5), (0, 5), (0, 5), (0, 5), (0, 20), (0, 20), (12, 5), (15, 7), (0, 20), (0, 20), (0, 20), (0, 20), (0, 20), (0, 20), (3, 2), (16, 9), (0, 50), (0, 8), (0, 8), (19, 5), (1, 9), (1, 9), (1, 5), (16, 9), (0, 50), (0, 8), (0, 8), (19, 5), (1, 9), (1, 9), (1, 5), (14, 3), (15, 7), (0, 20), (0, 20), (0, 20), (0, 20), (0, 20), (0, 20), (13, 7), (0, 8), (0, 8), (1, 4096), (1, 4096), (18, 3), (0, 20), (0, 20), (10, 3), (0, 12), (0, 12), (6, 4), (17, 3), (0, 60), (17, 3), (0, 60), (17, 3), (0, 60), (17, 3)]) h Q := by
  refine wg_step rfl rfl ?_
  show WG _ 219 1 [vr 87] [vr 87] _ _ _
  refine wg_step rfl rfl (And.intro (And.intro (Nat.le_of_ble_eq_true rfl) (Nat.le_of_ble_eq_true rfl)) ?_)
  show WG _ 219 4 [vr 87] [] _ _ _
  refine wg_step rfl rfl ?_
  show WG _ 219 5 [vr 87] [vr 87] _ _ _
  refine wg_step rfl rfl ?_
  show WG _ 219 7 [vr 87] [vi 60, vr 87] _ _ _
  refine wg_step rfl rfl (And.intro (And.intro (show (0 : Int) ≤ (60 : Int) by decide) (show (60 : Int) ≤ 10000 by decide)) ?_)
  show WG _ 219 9 [vr 87] [vr 88, vr 87] _ _ _
  refine wg_step rfl rfl (And.intro rfl ?_)
  show WG _ 219 12 [vr 87] [] _ _ _
  refine wg_step rfl rfl ?_
  show WG _ 219 13 [vr 87] [vr 87] _ _ _
  refine wg_step rfl rfl ?_
  show WG _ 219 14 [vr 87] [vi (-1), vr 87] _ _ _
  refine wg_step rfl rfl (And.intro rfl ?_)
  show WG _ 219 17 [vr 87] [] _ _ _
  exact wg_vret rfl rfl HH
theorem con_3 {N : Nat} {h : HP} {Q : aQ} (HH : WG 2 0 22 [vr 6, vu] [vr 8, vr 8, vr 6] (SH0 N ++ [(20, 11), (0, 10), (11, 10)]) (new0 (upd2 (cloH (new0 h 7) 7 1) 6 0 7) 8) Q) : WG 2 0 0 [vr 6, vu] [] (SH0 N ++ [(20, 11)]) h Q := by
  refine wg_step rfl rfl ?_
  show WG _ 0 1 [vr 6, vu] [vr 6] _ _ _
  refine wg_step rfl rfl (And.intro (And.intro (Nat.le_of_ble_eq_true rfl) (Nat.le_of_ble_eq_true rfl)) ?_)
  show WG _ 0 4 [vr 6, vu] [] _ _ _
  refine wg_step rfl rfl ?_
  show WG _ 0 5 [vr 6, vu] [vr 6] _ _ _
  refine wg_step rfl rfl ?_
  show WG _ 0 8 [vr 6, vu] [vr 1, vr 6] _ _ _
  refine wg_step rfl rfl (And.intro (And.intro (Nat.le_of_ble_eq_true rfl) (And.intro (Nat.le_of_ble_eq_true rfl) (And.intro rfl (Nat.le_of_ble_eq_true rfl)))) ?_)
  show WG _ 0 11 [vr 6, vu] [vr 7, vr 6] _ _ _
  refine wg_step rfl rfl (And.intro (And.intro rfl (Nat.le_of_ble_eq_true rfl)) ?_)
  show WG _ 0 14 [vr 6, vu] [vr 7, vr 6] _ _ _
  refine wg_step rfl rfl (And.intro rfl ?_)
  show WG _ 0 17 [vr 6, vu] [] _ _ _
  refine wg_step rfl rfl ?_
  show WG _ 0 18 [vr 6, vu] [vr 6] _ _ _
  refine wg_step rfl rfl ?_
  show WG _ 0 21 [vr 6, vu] [vr 8, vr 6] _ _ _
  refine wg_step rfl rfl ?_
  show WG _ 0 22 [vr 6, vu] [vr 8, vr 8, vr 6] _ _ _
  exact HH
theorem con_4 {N : Nat} {h : HP} {Q : aQ} (HH : WG 2 0 25 [vr 6, vu] [vr 8, vr 6] (SH0 N ++ [(20, 11), (0, 10), (11, 10), (0, 100), (0, 100), (0, 100), (0, 100), (4, 20), (0, 5), (0, 5), (0, 5), (0, 5), (0, 5), (0, 5), (0, 5), (0, 5), (0, 5), (0, 5), (0, 5), (0, 5), (0, 5), (0, 5), (0, 5), (0, 5), (0, 5), (0, 5), (0, 5), (0, 5), (0, 20), (0, 20)]) (upd2 (new0 (upd2 (new0 (upd2 (newM (upd2 (new0 (upd2 (new0 (upd2 (new0 (upd2 (new0 h 9) 8 0 9) 10) 8 1 10) 11) 8 2 11) 12) 8 3 12) 13 20) 8 4 13) 34) 8 5 34) 35) 8 6 35) Q) : WG 2 0 22 [vr 6, vu] [vr 8, vr 8, vr 6] (SH0 N ++ [(20, 11), (0, 10), (11, 10)]) h Q := by
  refine wg_call (k := 141) rfl rfl (Nat.le_of_ble_eq_true rfl) (Nat.le_of_ble_eq_true rfl) (Nat.le_of_ble_eq_true rfl) (rcv_V rfl rfl) ?_
  show WG 0 141 0 [vr 8] [] (SH0 N ++ [(20, 11), (0, 10), (11, 10)]) h _
  refine con_5  ?_
  show WG _ 0 25 [vr 6, vu] [vr 8, vr 6] _ _ _
  exact HH
theorem con_6 {N : Nat} {h : HP} {Q : aQ} (HH : WG 2 0 33 [vr 6, vu] [vr 36, vr 36, vr 6] (SH0 N ++ [(20, 11), (0, 10), (11, 10), (0, 100), (0, 100), (0, 100), (0, 100), (4, 20), (0, 5), (0, 5), (0, 5), (0, 5), (0, 5), (0, 5), (0, 5), (0, 5), (0, 5), (0, 5), (0, 5), (0, 5), (0, 5), (0, 5), (0, 5), (0, 5), (0, 5), (0, 5), (0, 5), (0, 5), (0, 20), (0, 20), (12, 5)]) (new0 (upd2 h 6 1 8) 36) Q) : WG 2 0 25 [vr 6, vu] [vr 8, vr 6] (SH0 N ++ [(20, 11), (0, 10), (11, 10), (0, 100), (0, 100), (0, 100), (0, 100), (4, 20), (0, 5), (0, 5), (0, 5), (0, 5), (0, 5), (0, 5), (0, 5), (0, 5), (0, 5), (0, 5), (0, 5), (0, 5), (0, 5), (0, 5), (0, 5), (0, 5), (0, 5), (0, 5), (0, 5), (0, 5), (0, 20), (0, 20)]) h Q := by
  refine wg_step rfl rfl (And.intro rfl ?_)
  show WG _ 0 28 [vr 6, vu] [] _ _ _
  refine wg_step rfl rfl ?_
  show WG _ 0 29 [vr 6, vu] [vr 6] _ _ _
  refine wg_step rfl rfl ?_
  show WG _ 0 32 [vr 6, vu] [vr 36, vr 6] _ _ _
  refine wg_step rfl rfl ?_
  show WG _ 0 33 [vr 6, vu] [vr 36, vr 36, vr 6] _ _ _
  exact HH
theorem con_7 {N : Nat} {h : HP} {Q : aQ} (HH : WG 2 0 36 [vr 6, vu] [vr 36, vr 6] (SH0 N ++ [(20, 11), (0, 10), (11, 10), (0, 100), (0, 100), (0, 100), (0, 100), (4, 20), (0, 5), (0, 5), (0, 5), (0, 5), (0, 5), (0, 5), (0, 5), (0, 5), (0, 5), (0, 5), (0, 5), (0, 5), (0, 5), (0, 5), (0, 5), (0, 5), (0, 5), (0, 5), (0, 5), (0, 5), (0, 20), (0, 20), (12, 5)]) h Q) : WG 2 0 33 [vr 6, vu] [vr 36, vr 36, vr 6] (SH0 N ++ [(20, 11), (0, 10), (11, 10), (0, 100), (0, 100), (0, 100), (0, 100), (4, 20), (0, 5), (0, 5), (0, 5), (0, 5), (0, 5), (0, 5), (0, 5), (0, 5), (0, 5), (0, 5), (0, 5), (0, 5), (0, 5), (0, 5), (0, 5), (0, 5), (0, 5), (0, 5), (0, 5), (0, 5), (0, 20), (0, 20), (12, 5)]) h Q := by
  refine wg_call (k := 158) rfl rfl (Nat.le_of_ble_eq_true rfl) (Nat.le_of_ble_eq_true rfl) (Nat.le_of_ble_eq_true rfl) (rcv_V rfl rfl) ?_
  show WG 0 158 0 [vr 36] [] (SH0 N ++ [(20, 11), (0, 10), (11, 10), (0, 100), (0, 100), (0, 100), (0, 100), (4, 20), (0, 5), (0, 5), (0, 5), (0, 5), (0, 5), (0, 5), (0, 5), (0, 5), (0, 5), (0, 5), (0, 5), (0, 5), (0, 5), (0, 5), (0, 5), (0, 5), (0, 5), (0, 5), (0, 5), (0, 5), (0, 20), (0, 20), (12, 5)]) h _
  refine con_8  ?_
  show WG _ 0 36 [vr 6, vu] [vr 36, vr 6] _ _ _
  exact HH
theorem con_9 {N : Nat} {h : HP} {Q : aQ} (HH : WG 2 0 44 [vr 6, vu] [vr 37, vr 37, vr 6] (SH0 N ++ [(20, 11), (0, 10), (11, 10), (0, 100), (0, 100), (0, 100), (0, 100), (4, 20), (0, 5), (0, 5), (0, 5), (0, 5), (0, 5), (0, 5), (0, 5), (0, 5), (0, 5), (0, 5), (0, 5), (0, 5), (0, 5), (0, 5), (0, 5), (0, 5), (0, 5), (0, 5), (0, 5), (0, 5), (0, 20), (0, 20), (12, 5), (15, 7)]) (new0 (upd2 h 6 2 36) 37) Q) : WG 2 0 36 [vr 6, vu] [vr 36, vr 6] (SH0 N ++ [(20, 11), (0, 10), (11, 10), (0, 100), (0, 100), (0, 100), (0, 100), (4, 20), (0, 5), (0, 5), (0, 5), (0, 5), (0, 5), (0, 5), (0, 5), (0, 5), (0, 5), (0, 5), (0, 5), (0, 5), (0, 5), (0, 5), (0, 5), (0, 5), (0, 5), (0, 5), (0, 5), (0, 5), (0, 20), (0, 20), (12, 5)]) h Q := by
  refine wg_step rfl rfl (And.intro rfl ?_)
  show WG _ 0 39 [vr 6, vu] [] _ _ _
  refine wg_step rfl rfl ?_
  show WG _ 0 40 [vr 6, vu] [vr 6] _ _ _
  refine wg_step rfl rfl ?_
  show WG _ 0 43 [vr 6, vu] [vr 37, vr 6] _ _ _
  refine wg_step rfl rfl ?_
  show WG _ 0 44 [vr 6, vu] [vr 37, vr 37, vr 6] _ _ _
  exact HH
theorem con_10 {N : Nat} {h : HP} {Q : aQ} (HH : WG 2 0 47 [vr 6, vu] [vr 37, vr 6] (SH0 N ++ [(20, 11), (0, 10), (11, 10), (0, 100), (0, 100), (0, 100), (0, 100), (4, 20), (0, 5), (0, 5), (0, 5), (0, 5), (0, 5), (0, 5), (0, 5), (0, 5), (0, 5), (0, 5), (0, 5), (0, 5), (0, 5), (0, 5), (0, 5), (0, 5), (0, 5), (0, 5), (0, 5), (0, 5), (0, 20), (0, 20), (12, 5), (15, 7), (0, 20), (0, 20), (0, 20), (0, 20), (0, 20), (0, 20)]) (upd2 (new0 (upd2 (new0 (upd2 (new0 (upd2 (new0 (upd2 (new0 (upd2 (new0 h 38) 37 0 38) 39) 37 1 39) 40) 37 2 40) 41) 37 3 41) 42) 37 4 42) 43) 37 5 43) Q) : WG 2 0 44 [vr 6, vu] [vr 37, vr 37, vr 6] (SH0 N ++ [(20, 11), (0, 10), (11, 10), (0, 100), (0, 100), (0, 100), (0, 100), (4, 20), (0, 5), (0, 5), (0, 5), (0, 5), (0, 5), (0, 5), (0, 5), (0, 5), (0, 5), (0, 5), (0, 5), (0, 5), (0, 5), (0, 5), (0, 5), (0, 5), (0, 5), (0, 5), (0, 5), (0, 5), (0, 20), (0, 20), (12, 5), (15, 7)]) h Q := by
  refine wg_call (k := 187) rfl rfl (Nat.le_of_ble_eq_true rfl) (Nat.le_of_ble_eq_true rfl) (Nat.le_of_ble_eq_true rfl) (rcv_V rfl rfl) ?_
  show WG 0 187 0 [vr 37] [] (SH0 N ++ [(20, 11), (0, 10), (11, 10), (0, 100), (0, 100), (0, 100), (0, 100), (4, 20), (0, 5), (0, 5), (0, 5), (0, 5), (0, 5), (0, 5), (0, 5), (0, 5), (0, 5), (0, 5), (0, 5), (0, 5), (0, 5), (0, 5), (0, 5), (0, 5), (0, 5), (0, 5), (0, 5), (0, 5), (0, 20), (0, 20), (12, 5), (15, 7)]) h _
  refine con_11  ?_
  show WG _ 0 47 [vr 6, vu] [vr 37, vr 6] _ _ _
  exact HH
theorem con_12 {N : Nat} {h : HP} {Q : aQ} (HH : WG 2 0 74 [vr 6, vi 0] [vr 45, vr 45, vi 0, vr 44] (SH0 N ++ [(20, 11), (0, 10), (11, 10), (0, 100), (0, 100), (0, 100), (0, 100), (4, 20), (0, 5), (0, 5), (0, 5), (0, 5), (0, 5), (0, 5), (0, 5), (0, 5), (0, 5), (0, 5), (0, 5), (0, 5), (0, 5), (0, 5), (0, 5), (0, 5), (0, 5), (0, 5), (0, 5), (0, 5), (0, 20), (0, 20), (12, 5), (15, 7), (0, 20), (0, 20), (0, 20), (0, 20), (0, 20), (0, 20), (3, 2), (16, 9)]) (new0 (upd2 (new0 (upd2 h 6 3 37) 44) 6 4 44) 45) Q) : WG 2 0 47 [vr 6, vu] [vr 37, vr 6] (SH0 N ++ [(20, 11), (0, 10), (11, 10), (0, 100), (0, 100), (0, 100), (0, 100), (4, 20), (0, 5), (0, 5), (0, 5), (0, 5), (0, 5), (0, 5), (0, 5), (0, 5), (0, 5), (0, 5), (0, 5), (0, 5), (0, 5), (0, 5), (0, 5), (0, 5), (0, 5), (0, 5), (0, 5), (0, 5), (0, 20), (0, 20), (12, 5), (15, 7), (0, 20), (0, 20), (0, 20), (0, 20), (0, 20), (0, 20)]) h Q := by
  refine wg_step rfl rfl (And.intro rfl ?_)
  show WG _ 0 50 [vr 6, vu] [] _ _ _
  refine wg_step rfl rfl ?_
  show WG _ 0 51 [vr 6, vu] [vr 6] _ _ _
  refine wg_step rfl rfl ?_
  show WG _ 0 52 [vr 6, vu] [vi 2, vr 6] _ _ _
  refine wg_step rfl rfl (And.intro (And.intro (show (0 : Int) ≤ (2 : Int) by decide) (show (2 : Int) ≤ 10000 by decide)) ?_)
  show WG _ 0 55 [vr 6, vu] [vr 44, vr 6] _ _ _
  refine wg_step rfl rfl (And.intro rfl ?_)
  show WG _ 0 58 [vr 6, vu] [] _ _ _
  refine wg_step rfl rfl ?_
  show WG _ 0 59 [vr 6, vu] [vi 0] _ _ _
  refine wg_step rfl rfl (And.intro ((Nat.le_of_ble_eq_true rfl) : 1 < 2) ?_)
  show WG _ 0 60 [vr 6, vi 0] [] _ _ _
  refine wg_step rfl rfl ?_
  show WG _ 0 61 [vr 6, vi 0] [vi 0] _ _ _
  refine wg_step rfl rfl ?_
  show WG _ 0 62 [vr 6, vi 0] [vi 2, vi 0] _ _ _
  refine wg_step rfl rfl (And.intro (fun q => absurd (show (0 : Int) ≥ (2 : Int) from q) (by decide)) (fun _ => ?_))
  show WG _ 0 65 [vr 6, vi 0] [] _ _ _
  refine wg_step rfl rfl ?_
  show WG _ 0 66 [vr 6, vi 0] [vr 6] _ _ _
  refine wg_step rfl rfl (And.intro rfl ?_)
  show WG _ 0 69 [vr 6, vi 0] [vr 44] _ _ _
  refine wg_step rfl rfl ?_
  show WG _ 0 70 [vr 6, vi 0] [vi 0, vr 44] _ _ _
  refine wg_step rfl rfl ?_
  show WG _ 0 73 [vr 6, vi 0] [vr 45, vi 0, vr 44] _ _ _
  refine wg_step rfl rfl ?_
  show WG _ 0 74 [vr 6, vi 0] [vr 45, vr 45, vi 0, vr 44] _ _ _
  exact HH
theorem con_13 {N : Nat} {h : HP} {Q : aQ} (HH : WG 2 0 77 [vr 6, vi 0] [vr 45, vi 0, vr 44] (SH0 N ++ [(20, 11), (0, 10), (11, 10), (0, 100), (0, 100), (0, 100), (0, 100), (4, 20), (0, 5), (0, 5), (0, 5), (0, 5), (0, 5), (0, 5), (0, 5), (0, 5), (0, 5), (0, 5), (0, 5), (0, 5), (0, 5), (0, 5), (0, 5), (0, 5), (0, 5), (0, 5), (0, 5), (0, 5), (0, 20), (0, 20), (12, 5), (15, 7), (0, 20), (0, 20), (0, 20), (0, 20), (0, 20), (0, 20), (3, 2), (16, 9), (0, 50), (0, 8), (0, 8), (19, 5), (1, 9), (1, 9), (1, 5)]) (upd2 (upd2 (upd2 (upd2 (upd2 (new0 (upd2 (new0 (upd2 (new0 (new0 (upd2 (new0 (upd2 (new0 (upd2 (new0 h 46) 45 0 46) 47) 45 1 47) 48) 45 2 48) 49) 50) 49 0 50) 51) 49 1 51) 52) 49 2 52) 45 3 49) 45 6 (-1)) 45 7 99) 45 8 99) Q) : WG 2 0 74 [vr 6, vi 0] [vr 45, vr 45, vi 0, vr 44] (SH0 N ++ [(20, 11), (0, 10), (11, 10), (0, 100), (0, 100), (0, 100), (0, 100), (4, 20), (0, 5), (0, 5), (0, 5), (0, 5), (0, 5), (0, 5), (0, 5), (0, 5), (0, 5), (0, 5), (0, 5), (0, 5), (0, 5), (0, 5), (0, 5), (0, 5), (0, 5), (0, 5), (0, 5), (0, 5), (0, 20), (0, 20), (12, 5), (15, 7), (0, 20), (0, 20), (0, 20), (0, 20), (0, 20), (0, 20), (3, 2), (16, 9)]) h Q := by
  refine wg_call (k := 200) rfl rfl (Nat.le_of_ble_eq_true rfl) (Nat.le_of_ble_eq_true rfl) (Nat.le_of_ble_eq_true rfl) (rcv_V rfl rfl) ?_
  show WG 1 200 0 [vr 45] [] (SH0 N ++ [(20, 11), (0, 10), (11, 10), (0, 100), (0, 100), (0, 100), (0, 100), (4, 20), (0, 5), (0, 5), (0, 5), (0, 5), (0, 5), (0, 5), (0, 5), (0, 5), (0, 5), (0, 5), (0, 5), (0, 5), (0, 5), (0, 5), (0, 5), (0, 5), (0, 5), (0, 5), (0, 5), (0, 5), (0, 20), (0, 20), (12, 5), (15, 7), (0, 20), (0, 20), (0, 20), (0, 20), (0, 20), (0, 20), (3, 2), (16, 9)]) h _
  refine con_18  ?_
  show WG _ 0 77 [vr 6, vi 0] [vr 45, vi 0, vr 44] _ _ _
  exact HH
theorem con_19 {N : Nat} {h : HP} {Q : aQ} (e0 : h 6 4 = 44) (HH : WG 2 0 74 [vr 6, vi 1] [vr 53, vr 53, vi 1, vr 44] (SH0 N ++ [(20, 11), (0, 10), (11, 10), (0, 100), (0, 100), (0, 100), (0, 100), (4, 20), (0, 5), (0, 5), (0, 5), (0, 5), (0, 5), (0, 5), (0, 5), (0, 5), (0, 5), (0, 5), (0, 5), (0, 5), (0, 5), (0, 5), (0, 5), (0, 5), (0, 5), (0, 5), (0, 5), (0, 5), (0, 20), (0, 20), (12, 5), (15, 7), (0, 20), (0, 20), (0, 20), (0, 20), (0, 20), (0, 20), (3, 2), (16, 9), (0, 50), (0, 8), (0, 8), (19, 5), (1, 9), (1, 9), (1, 5), (16, 9)]) (new0 (upd2 h 44 0 45) 53) Q) : WG 2 0 77 [vr 6, vi 0] [vr 45, vi 0, vr 44] (SH0 N ++ [(20, 11), (0, 10), (11, 10), (0, 100), (0, 100), (0, 100), (0, 100), (4, 20), (0, 5), (0, 5), (0, 5), (0, 5), (0, 5), (0, 5), (0, 5), (0, 5), (0, 5), (0, 5), (0, 5), (0, 5), (0, 5), (0, 5), (0, 5), (0, 5), (0, 5), (0, 5), (0, 5), (0, 5), (0, 20), (0, 20), (12, 5), (15, 7), (0, 20), (0, 20), (0, 20), (0, 20), (0, 20), (0, 20), (3, 2), (16, 9), (0, 50), (0, 8), (0, 8), (19, 5), (1, 9), (1, 9), (1, 5)]) h Q := by
  refine wg_step rfl rfl (And.intro (And.intro (Or.inl (And.intro rfl rfl)) (And.intro (show (0 : Int) ≤ (0 : Int) by decide) (show (0 : Int) < ((2 : Nat) : Int) by decide))) ?_)
  show WG _ 0 78 [vr 6, vi 0] [] _ _ _
  refine wg_step rfl rfl ?_
  show WG _ 0 81 [vr 6, vi 1] [] _ _ _
  refine wg_step rfl rfl ?_
  show WG _ 0 60 [vr 6, vi 1] [] _ _ _
  refine wg_step rfl rfl ?_
  show WG _ 0 61 [vr 6, vi 1] [vi 1] _ _ _
  refine wg_step rfl rfl ?_
  show WG _ 0 62 [vr 6, vi 1] [vi 2, vi 1] _ _ _
  refine wg_step rfl rfl (And.intro (fun q => absurd (show (1 : Int) ≥ (2 : Int) from q) (by decide)) (fun _ => ?_))
  show WG _ 0 65 [vr 6, vi 1] [] _ _ _
  refine wg_step rfl rfl ?_
  show WG _ 0 66 [vr 6, vi 1] [vr 6] _ _ _
  refine wg_getR (r := 44) rfl rfl (show ((upd2 h 44 0 45)) 6 ((4 : Nat) : Int) = ((44 : Nat) : Int) from e0) ?_
  show WG _ 0 69 [vr 6, vi 1] [vr 44] _ _ _
  refine wg_step rfl rfl ?_
  show WG _ 0 70 [vr 6, vi 1] [vi 1, vr 44] _ _ _
  refine wg_step rfl rfl ?_
  show WG _ 0 73 [vr 6, vi 1] [vr 53, vi 1, vr 44] _ _ _
  refine wg_step rfl rfl ?_
  show WG _ 0 74 [vr 6, vi 1] [vr 53, vr 53, vi 1, vr 44] _ _ _
  exact HH
theorem con_20 {N : Nat} {h : HP} {Q : aQ} (HH : WG 2 0 77 [vr 6, vi 1] [vr 53, vi 1, vr 44] (SH0 N ++ [(20, 11), (0, 10), (11, 10), (0, 100), (0, 100), (0, 100), (0, 100), (4, 20), (0, 5), (0, 5), (0, 5), (0, 5), (0, 5), (0, 5), (0, 5), (0, 5), (0, 5), (0, 5), (0, 5), (0, 5), (0, 5), (0, 5), (0, 5), (0, 5), (0, 5), (0, 5), (0, 5), (0, 5), (0, 20), (0, 20), (12, 5), (15, 7), (0, 20), (0, 20), (0, 20), (0, 20), (0, 20), (0, 20), (3, 2), (16, 9), (0, 50), (0, 8), (0, 8), (19, 5), (1, 9), (1, 9), (1, 5), (16, 9), (0, 50), (0, 8), (0, 8), (19, 5), (1, 9), (1, 9), (1, 5)]) (upd2 (upd2 (upd2 (upd2 (upd2 (new0 (upd2 (new0 (upd2 (new0 (new0 (upd2 (new0 (upd2 (new0 (upd2 (new0 h 54) 53 0 54) 55) 53 1 55) 56) 53 2 56) 57) 58) 57 0 58) 59) 57 1 59) 60) 57 2 60) 53 3 57) 53 6 (-1)) 53 7 99) 53 8 99) Q) : WG 2 0 74 [vr 6, vi 1] [vr 53, vr 53, vi 1, vr 44] (SH0 N ++ [(20, 11), (0, 10), (11, 10), (0, 100), (0, 100), (0, 100), (0, 100), (4, 20), (0, 5), (0, 5), (0, 5), (0, 5), (0, 5), (0, 5), (0, 5), (0, 5), (0, 5), (0, 5), (0, 5), (0, 5), (0, 5), (0, 5), (0, 5), (0, 5), (0, 5), (0, 5), (0, 5), (0, 5), (0, 20), (0, 20), (12, 5), (15, 7), (0, 20), (0, 20), (0, 20), (0, 20), (0, 20), (0, 20), (3, 2), (16, 9), (0, 50), (0, 8), (0, 8), (19, 5), (1, 9), (1, 9), (1, 5), (16, 9)]) h Q := by
  refine wg_call (k := 200) rfl rfl (Nat.le_of_ble_eq_true rfl) (Nat.le_of_ble_eq_true rfl) (Nat.le_of_ble_eq_true rfl) (rcv_V rfl rfl) ?_
  show WG 1 200 0 [vr 53] [] (SH0 N ++ [(20, 11), (0, 10), (11, 10), (0, 100), (0, 100), (0, 100), (0, 100), (4, 20), (0, 5), (0, 5), (0, 5), (0, 5), (0, 5), (0, 5), (0, 5), (0, 5), (0, 5), (0, 5), (0, 5), (0, 5), (0, 5), (0, 5), (0, 5), (0, 5), (0, 5), (0, 5), (0, 5), (0, 5), (0, 20), (0, 20), (12, 5), (15, 7), (0, 20), (0, 20), (0, 20), (0, 20), (0, 20), (0, 20), (3, 2), (16, 9), (0, 50), (0, 8), (0, 8), (19, 5), (1, 9), (1, 9), (1, 5), (16, 9)]) h _
  refine con_25  ?_
  show WG _ 0 77 [vr 6, vi 1] [vr 53, vi 1, vr 44] _ _ _
  exact HH
theorem con_26 {N : Nat} {h : HP} {Q : aQ} (e0 : h 6 3 = 37) (HH : WG 2 0 93 [vr 6, vi 2] [vr 37, vr 61, vr 61, vr 6] (SH0 N ++ [(20, 11), (0, 10), (11, 10), (0, 100), (0, 100), (0, 100), (0, 100), (4, 20), (0, 5), (0, 5), (0, 5), (0, 5), (0, 5), (0, 5), (0, 5), (0, 5), (0, 5), (0, 5), (0, 5), (0, 5), (0, 5), (0, 5), (0, 5), (0, 5), (0, 5), (0, 5), (0, 5), (0, 5), (0, 20), (0, 20), (12, 5), (15, 7), (0, 20), (0, 20), (0, 20), (0, 20), (0, 20), (0, 20), (3, 2), (16, 9), (0, 50), (0, 8), (0, 8), (19, 5), (1, 9), (1, 9), (1, 5), (16, 9), (0, 50), (0, 8), (0, 8), (19, 5), (1, 9), (1, 9), (1, 5), (14, 3)]) (new0 (upd2 h 44 1 53) 61) Q) : WG 2 0 77 [vr 6, vi 1] [vr 53, vi 1, vr 44] (SH0 N ++ [(20, 11), (0, 10), (11, 10), (0, 100), (0, 100), (0, 100), (0, 100), (4, 20), (0, 5), (0, 5), (0, 5), (0, 5), (0, 5), (0, 5), (0, 5), (0, 5), (0, 5), (0, 5), (0, 5), (0, 5), (0, 5), (0, 5), (0, 5), (0, 5), (0, 5), (0, 5), (0, 5), (0, 5), (0, 20), (0, 20), (12, 5), (15, 7), (0, 20), (0, 20), (0, 20), (0, 20), (0, 20), (0, 20), (3, 2), (16, 9), (0, 50), (0, 8), (0, 8), (19, 5), (1, 9), (1, 9), (1, 5), (16, 9), (0, 50), (0, 8), (0, 8), (19, 5), (1, 9), (1, 9), (1, 5)]) h Q := by
  refine wg_step rfl rfl (And.intro (And.intro (Or.inl (And.intro rfl rfl)) (And.intro (show (0 : Int) ≤ (1 : Int) by decide) (show (1 : Int) < ((2 : Nat) : Int) by decide))) ?_)
  show WG _ 0 78 [vr 6, vi 1] [] _ _ _
  refine wg_step rfl rfl ?_
  show WG _ 0 81 [vr 6, vi 2] [] _ _ _
  refine wg_step rfl rfl ?_
  show WG _ 0 60 [vr 6, vi 2] [] _ _ _
  refine wg_step rfl rfl ?_
  show WG _ 0 61 [vr 6, vi 2] [vi 2] _ _ _
  refine wg_step rfl rfl ?_
  show WG _ 0 62 [vr 6, vi 2] [vi 2, vi 2] _ _ _
  refine wg_step rfl rfl (And.intro (fun _ => ?_) (fun q => absurd (show (2 : Int) ≥ (2 : Int) by decide) q))
  show WG _ 0 84 [vr 6, vi 2] [] _ _ _
  refine wg_step rfl rfl ?_
  show WG _ 0 85 [vr 6, vi 2] [vr 6] _ _ _
  refine wg_step rfl rfl ?_
  show WG _ 0 88 [vr 6, vi 2] [vr 61, vr 6] _ _ _
  refine wg_step rfl rfl ?_
  show WG _ 0 89 [vr 6, vi 2] [vr 61, vr 61, vr 6] _ _ _
  refine wg_step rfl rfl ?_
  show WG _ 0 90 [vr 6, vi 2] [vr 6, vr 61, vr 61, vr 6] _ _ _
  refine wg_getR (r := 37) rfl rfl (show ((new0 (upd2 h 44 1 53) 61)) 6 ((3 : Nat) : Int) = ((37 : Nat) : Int) from e0) ?_
  show WG _ 0 93 [vr 6, vi 2] [vr 37, vr 61, vr 61, vr 6] _ _ _
  exact HH
theorem con_27 {N : Nat} {h : HP} {Q : aQ} (HH : WG 2 0 96 [vr 6, vi 2] [vr 61, vr 6] (SH0 N ++ [(20, 11), (0, 10), (11, 10), (0, 100), (0, 100), (0, 100), (0, 100), (4, 20), (0, 5), (0, 5), (0, 5), (0, 5), (0, 5), (0, 5), (0, 5), (0, 5), (0, 5), (0, 5), (0, 5), (0, 5), (0, 5), (0, 5), (0, 5), (0, 5), (0, 5), (0, 5), (0, 5), (0, 5), (0, 20), (0, 20), (12, 5), (15, 7), (0, 20), (0, 20), (0, 20), (0, 20), (0, 20), (0, 20), (3, 2), (16, 9), (0, 50), (0, 8), (0, 8), (19, 5), (1, 9), (1, 9), (1, 5), (16, 9), (0, 50), (0, 8), (0, 8), (19, 5), (1, 9), (1, 9), (1, 5), (14, 3), (15, 7), (0, 20), (0, 20), (0, 20), (0, 20), (0, 20), (0, 20)]) (upd2 (upd2 (upd2 (new0 (upd2 (new0 (upd2 (new0 (upd2 (new0 (upd2 (new0 (upd2 (new0 (new0 h 62) 63) 62 0 63) 64) 62 1 64) 65) 62 2 65) 66) 62 3 66) 67) 62 4 67) 68) 62 5 68) 61 0 62) 61 1 37) Q) : WG 2 0 93 [vr 6, vi 2] [vr 37, vr 61, vr 61, vr 6] (SH0 N ++ [(20, 11), (0, 10), (11, 10), (0, 100), (0, 100), (0, 100), (0, 100), (4, 20), (0, 5), (0, 5), (0, 5), (0, 5), (0, 5), (0, 5), (0, 5), (0, 5), (0, 5), (0, 5), (0, 5), (0, 5), (0, 5), (0, 5), (0, 5), (0, 5), (0, 5), (0, 5), (0, 5), (0, 5), (0, 20), (0, 20), (12, 5), (15, 7), (0, 20), (0, 20), (0, 20), (0, 20), (0, 20), (0, 20), (3, 2), (16, 9), (0, 50), (0, 8), (0, 8), (19, 5), (1, 9), (1, 9), (1, 5), (16, 9), (0, 50), (0, 8), (0, 8), (19, 5), (1, 9), (1, 9), (1, 5), (14, 3)]) h Q := by
  refine wg_call (k := 183) rfl rfl (Nat.le_of_ble_eq_true rfl) (Nat.le_of_ble_eq_true rfl) (Nat.le_of_ble_eq_true rfl) (rcv_V rfl rfl) ?_
  show WG 1 183 0 [vr 61, vr 37] [] (SH0 N ++ [(20, 11), (0, 10), (11, 10), (0, 100), (0, 100), (0, 100), (0, 100), (4, 20), (0, 5), (0, 5), (0, 5), (0, 5), (0, 5), (0, 5), (0, 5), (0, 5), (0, 5), (0, 5), (0, 5), (0, 5), (0, 5), (0, 5), (0, 5), (0, 5), (0, 5), (0, 5), (0, 5), (0, 5), (0, 20), (0, 20), (12, 5), (15, 7), (0, 20), (0, 20), (0, 20), (0, 20), (0, 20), (0, 20), (3, 2), (16, 9), (0, 50), (0, 8), (0, 8), (19, 5), (1, 9), (1, 9), (1, 5), (16, 9), (0, 50), (0, 8), (0, 8), (19, 5), (1, 9), (1, 9), (1, 5), (14, 3)]) h _
  refine con_32  ?_
  show WG _ 0 96 [vr 6, vi 2] [vr 61, vr 6] _ _ _
  exact HH
theorem con_33 {N : Nat} {h : HP} {Q : aQ} (HH : WG 2 0 104 [vr 6, vi 2] [vr 69, vr 69, vr 6] (SH0 N ++ [(20, 11), (0, 10), (11, 10), (0, 100), (0, 100), (0, 100), (0, 100), (4, 20), (0, 5), (0, 5), (0, 5), (0, 5), (0, 5), (0, 5), (0, 5), (0, 5), (0, 5), (0, 5), (0, 5), (0, 5), (0, 5), (0, 5), (0, 5), (0, 5), (0, 5), (0, 5), (0, 5), (0, 5), (0, 20), (0, 20), (12, 5), (15, 7), (0, 20), (0, 20), (0, 20), (0, 20), (0, 20), (0, 20), (3, 2), (16, 9), (0, 50), (0, 8), (0, 8), (19, 5), (1, 9), (1, 9), (1, 5), (16, 9), (0, 50), (0, 8), (0, 8), (19, 5), (1, 9), (1, 9), (1, 5), (14, 3), (15, 7), (0, 20), (0, 20), (0, 20), (0, 20), (0, 20), (0, 20), (13, 7)]) (new0 (upd2 h 6 5 61) 69) Q) : WG 2 0 96 [vr 6, vi 2] [vr 61, vr 6] (SH0 N ++ [(20, 11), (0, 10), (11, 10), (0, 100), (0, 100), (0, 100), (0, 100), (4, 20), (0, 5), (0, 5), (0, 5), (0, 5), (0, 5), (0, 5), (0, 5), (0, 5), (0, 5), (0, 5), (0, 5), (0, 5), (0, 5), (0, 5), (0, 5), (0, 5), (0, 5), (0, 5), (0, 5), (0, 5), (0, 20), (0, 20), (12, 5), (15, 7), (0, 20), (0, 20), (0, 20), (0, 20), (0, 20), (0, 20), (3, 2), (16, 9), (0, 50), (0, 8), (0, 8), (19, 5), (1, 9), (1, 9), (1, 5), (16, 9), (0, 50), (0, 8), (0, 8), (19, 5), (1, 9), (1, 9), (1, 5), (14, 3), (15, 7), (0, 20), (0, 20), (0, 20), (0, 20), (0, 20), (0, 20)]) h Q := by
  refine wg_step rfl rfl (And.intro rfl ?_)
  show WG _ 0 99 [vr 6, vi 2] [] _ _ _
  refine wg_step rfl rfl ?_
  show WG _ 0 100 [vr 6, vi 2] [vr 6] _ _ _
  refine wg_step rfl rfl ?_
  show WG _ 0 103 [vr 6, vi 2] [vr 69, vr 6] _ _ _
  refine wg_step rfl rfl ?_
  show WG _ 0 104 [vr 6, vi 2] [vr 69, vr 69, vr 6] _ _ _
  exact HH
theorem con_34 {N : Nat} {h : HP} {Q : aQ} (HH : WG 2 0 107 [vr 6, vi 2] [vr 69, vr 6] (SH0 N ++ [(20, 11), (0, 10), (11, 10), (0, 100), (0, 100), (0, 100), (0, 100), (4, 20), (0, 5), (0, 5), (0, 5), (0, 5), (0, 5), (0, 5), (0, 5), (0, 5), (0, 5), (0, 5), (0, 5), (0, 5), (0, 5), (0, 5), (0, 5), (0, 5), (0, 5), (0, 5), (0, 5), (0, 5), (0, 20), (0, 20), (12, 5), (15, 7), (0, 20), (0, 20), (0, 20), (0, 20), (0, 20), (0, 20), (3, 2), (16, 9), (0, 50), (0, 8), (0, 8), (19, 5), (1, 9), (1, 9), (1, 5), (16, 9), (0, 50), (0, 8), (0, 8), (19, 5), (1, 9), (1, 9), (1, 5), (14, 3), (15, 7), (0, 20), (0, 20), (0, 20), (0, 20), (0, 20), (0, 20), (13, 7), (0, 8), (0, 8), (1, 4096), (1, 4096)]) (upd2 (upd2 (new0 (upd2 (new0 (upd2 (new0 (upd2 (upd2 (upd2 (upd2 (upd2 (upd2 (upd2 (upd2 (upd2 (new0 h 70) 70 0 0) 70 1 2) 70 2 9) 70 3 21) 70 4 21) 70 5 9) 70 6 2) 70 7 0) 69 0 70) 71) 69 1 71) 72) 69 2 72) 73) 69 3 73) 69 6 1) Q) : WG 2 0 104 [vr 6, vi 2] [vr 69, vr 69, vr 6] (SH0 N ++ [(20, 11), (0, 10), (11, 10), (0, 100), (0, 100), (0, 100), (0, 100), (4, 20), (0, 5), (0, 5), (0, 5), (0, 5), (0, 5), (0, 5), (0, 5), (0, 5), (0, 5), (0, 5), (0, 5), (0, 5), (0, 5), (0, 5), (0, 5), (0, 5), (0, 5), (0, 5), (0, 5), (0, 5), (0, 20), (0, 20), (12, 5), (15, 7), (0, 20), (0, 20), (0, 20), (0, 20), (0, 20), (0, 20), (3, 2), (16, 9), (0, 50), (0, 8), (0, 8), (19, 5), (1, 9), (1, 9), (1, 5), (16, 9), (0, 50), (0, 8), (0, 8), (19, 5), (1, 9), (1, 9), (1, 5), (14, 3), (15, 7), (0, 20), (0, 20), (0, 20), (0, 20), (0, 20), (0, 20), (13, 7)]) h Q := by
  refine wg_call (k := 173) rfl rfl (Nat.le_of_ble_eq_true rfl) (Nat.le_of_ble_eq_true rfl) (Nat.le_of_ble_eq_true rfl) (rcv_V rfl rfl) ?_
  show WG 0 173 0 [vr 69] [] (SH0 N ++ [(20, 11), (0, 10), (11, 10), (0, 100), (0, 100), (0, 100), (0, 100), (4, 20), (0, 5), (0, 5), (0, 5), (0, 5), (0, 5), (0, 5), (0, 5), (0, 5), (0, 5), (0, 5), (0, 5), (0, 5), (0, 5), (0, 5), (0, 5), (0, 5), (0, 5), (0, 5), (0, 5), (0, 5), (0, 20), (0, 20), (12, 5), (15, 7), (0, 20), (0, 20), (0, 20), (0, 20), (0, 20), (0, 20), (3, 2), (16, 9), (0, 50), (0, 8), (0, 8), (19, 5), (1, 9), (1, 9), (1, 5), (16, 9), (0, 50), (0, 8), (0, 8), (19, 5), (1, 9), (1, 9), (1, 5), (14, 3), (15, 7), (0, 20), (0, 20), (0, 20), (0, 20), (0, 20), (0, 20), (13, 7)]) h _
  refine con_37  ?_
  show WG _ 0 107 [vr 6, vi 2] [vr 69, vr 6] _ _ _
  exact HH
theorem con_38 {N : Nat} {h : HP} {Q : aQ} (HH : WG 2 0 115 [vr 6, vi 2] [vr 74, vr 74, vr 6] (SH0 N ++ [(20, 11), (0, 10), (11, 10), (0, 100), (0, 100), (0, 100), (0, 100), (4, 20), (0, 5), (0, 5), (0, 5), (0, 5), (0, 5), (0, 5), (0, 5), (0, 5), (0, 5), (0, 5), (0, 5), (0, 5), (0, 5), (0, 5), (0, 5), (0, 5), (0, 5), (0, 5), (0, 5), (0, 5), (0, 20), (0, 20), (12, 5), (15, 7), (0, 20), (0, 20), (0, 20), (0, 20), (0, 20), (0, 20), (3, 2), (16, 9), (0, 50), (0, 8), (0, 8), (19, 5), (1, 9), (1, 9), (1, 5), (16, 9), (0, 50), (0, 8), (0, 8), (19, 5), (1, 9), (1, 9), (1, 5), (14, 3), (15, 7), (0, 20), (0, 20), (0, 20), (0, 20), (0, 20), (0, 20), (13, 7), (0, 8), (0, 8), (1, 4096), (1, 4096), (18, 3)]) (new0 (upd2 h 6 6 69) 74) Q) : WG 2 0 107 [vr 6, vi 2] [vr 69, vr 6] (SH0 N ++ [(20, 11), (0, 10), (11, 10), (0, 100), (0, 100), (0, 100), (0, 100), (4, 20), (0, 5), (0, 5), (0, 5), (0, 5), (0, 5), (0, 5), (0, 5), (0, 5), (0, 5), (0, 5), (0, 5), (0, 5), (0, 5), (0, 5), (0, 5), (0, 5), (0, 5), (0, 5), (0, 5), (0, 5), (0, 20), (0, 20), (12, 5), (15, 7), (0, 20), (0, 20), (0, 20), (0, 20), (0, 20), (0, 20), (3, 2), (16, 9), (0, 50), (0, 8), (0, 8), (19, 5), (1, 9), (1, 9), (1, 5), (16, 9), (0, 50), (0, 8), (0, 8), (19, 5), (1, 9), (1, 9), (1, 5), (14, 3), (15, 7), (0, 20), (0, 20), (0, 20), (0, 20), (0, 20), (0, 20), (13, 7), (0, 8), (0, 8), (1, 4096), (1, 4096)]) h Q := by
  refine wg_step rfl rfl (And.intro rfl ?_)
  show WG _ 0 110 [vr 6, vi 2] [] _ _ _
  refine wg_step rfl rfl ?_
  show WG _ 0 111 [vr 6, vi 2] [vr 6] _ _ _
  refine wg_step rfl rfl ?_
  show WG _ 0 114 [vr 6, vi 2] [vr 74, vr 6] _ _ _
  refine wg_step rfl rfl ?_
  show WG _ 0 115 [vr 6, vi 2] [vr 74, vr 74, vr 6] _ _ _
  exact HH
theorem con_39 {N : Nat} {h : HP} {Q : aQ} (HH : WG 2 0 118 [vr 6, vi 2] [vr 74, vr 6] (SH0 N ++ [(20, 11), (0, 10), (11, 10), (0, 100), (0, 100), (0, 100), (0, 100), (4, 20), (0, 5), (0, 5), (0, 5), (0, 5), (0, 5), (0, 5), (0, 5), (0, 5), (0, 5), (0, 5), (0, 5), (0, 5), (0, 5), (0, 5), (0, 5), (0, 5), (0, 5), (0, 5), (0, 5), (0, 5), (0, 20), (0, 20), (12, 5), (15, 7), (0, 20), (0, 20), (0, 20), (0, 20), (0, 20), (0, 20), (3, 2), (16, 9), (0, 50), (0, 8), (0, 8), (19, 5), (1, 9), (1, 9), (1, 5), (16, 9), (0, 50), (0, 8), (0, 8), (19, 5), (1, 9), (1, 9), (1, 5), (14, 3), (15, 7), (0, 20), (0, 20), (0, 20), (0, 20), (0, 20), (0, 20), (13, 7), (0, 8), (0, 8), (1, 4096), (1, 4096), (18, 3), (0, 20), (0, 20)]) (upd2 (new0 (upd2 (new0 h 75) 74 0 75) 76) 74 1 76) Q) : WG 2 0 115 [vr 6, vi 2] [vr 74, vr 74, vr 6] (SH0 N ++ [(20, 11), (0, 10), (11, 10), (0, 100), (0, 100), (0, 100), (0, 100), (4, 20), (0, 5), (0, 5), (0, 5), (0, 5), (0, 5), (0, 5), (0, 5), (0, 5), (0, 5), (0, 5), (0, 5), (0, 5), (0, 5), (0, 5), (0, 5), (0, 5), (0, 5), (0, 5), (0, 5), (0, 5), (0, 20), (0, 20), (12, 5), (15, 7), (0, 20), (0, 20), (0, 20), (0, 20), (0, 20), (0, 20), (3, 2), (16, 9), (0, 50), (0, 8), (0, 8), (19, 5), (1, 9), (1, 9), (1, 5), (16, 9), (0, 50), (0, 8), (0, 8), (19, 5), (1, 9), (1, 9), (1, 5), (14, 3), (15, 7), (0, 20), (0, 20), (0, 20), (0, 20), (0, 20), (0, 20), (13, 7), (0, 8), (0, 8), (1, 4096), (1, 4096), (18, 3)]) h Q := by
  refine wg_call (k := 230) rfl rfl (Nat.le_of_ble_eq_true rfl) (Nat.le_of_ble_eq_true rfl) (Nat.le_of_ble_eq_true rfl) (rcv_V rfl rfl) ?_
  show WG 0 230 0 [vr 74] [] (SH0 N ++ [(20, 11), (0, 10), (11, 10), (0, 100), (0, 100), (0, 100), (0, 100), (4, 20), (0, 5), (0, 5), (0, 5), (0, 5), (0, 5), (0, 5), (0, 5), (0, 5), (0, 5), (0, 5), (0, 5), (0, 5), (0, 5), (0, 5), (0, 5), (0, 5), (0, 5), (0, 5), (0, 5), (0, 5), (0, 20), (0, 20), (12, 5), (15, 7), (0, 20), (0, 20), (0, 20), (0, 20), (0, 20), (0, 20), (3, 2), (16, 9), (0, 50), (0, 8), (0, 8), (19, 5), (1, 9), (1, 9), (1, 5), (16, 9), (0, 50), (0, 8), (0, 8), (19, 5), (1, 9), (1, 9), (1, 5), (14, 3), (15, 7), (0, 20), (0, 20), (0, 20), (0, 20), (0, 20), (0, 20), (13, 7), (0, 8), (0, 8), (1, 4096), (1, 4096), (18, 3)]) h _
  refine con_40  ?_
  show WG _ 0 118 [vr 6, vi 2] [vr 74, vr 6] _ _ _
  exact HH
theorem con_41 {N : Nat} {h : HP} {Q : aQ} (HH : WG 2 0 126 [vr 6, vi 2] [vr 77, vr 77, vr 6] (SH0 N ++ [(20, 11), (0, 10), (11, 10), (0, 100), (0, 100), (0, 100), (0, 100), (4, 20), (0, 5), (0, 5), (0, 5), (0, 5), (0, 5), (0, 5), (0, 5), (0, 5), (0, 5), (0, 5), (0, 5), (0, 5), (0, 5), (0, 5), (0, 5), (0, 5), (0, 5), (0, 5), (0, 5), (0, 5), (0, 20), (0, 20), (12, 5), (15, 7), (0, 20), (0, 20), (0, 20), (0, 20), (0, 20), (0, 20), (3, 2), (16, 9), (0, 50), (0, 8), (0, 8), (19, 5), (1, 9), (1, 9), (1, 5), (16, 9), (0, 50), (0, 8), (0, 8), (19, 5), (1, 9), (1, 9), (1, 5), (14, 3), (15, 7), (0, 20), (0, 20), (0, 20), (0, 20), (0, 20), (0, 20), (13, 7), (0, 8), (0, 8), (1, 4096), (1, 4096), (18, 3), (0, 20), (0, 20), (10, 3)]) (new0 (upd2 h 6 7 74) 77) Q) : WG 2 0 118 [vr 6, vi 2] [vr 74, vr 6] (SH0 N ++ [(20, 11), (0, 10), (11, 10), (0, 100), (0, 100), (0, 100), (0, 100), (4, 20), (0, 5), (0, 5), (0, 5), (0, 5), (0, 5), (0, 5), (0, 5), (0, 5), (0, 5), (0, 5), (0, 5), (0, 5), (0, 5), (0, 5), (0, 5), (0, 5), (0, 5), (0, 5), (0, 5), (0, 5), (0, 20), (0, 20), (12, 5), (15, 7), (0, 20), (0, 20), (0, 20), (0, 20), (0, 20), (0, 20), (3, 2), (16, 9), (0, 50), (0, 8), (0, 8), (19, 5), (1, 9), (1, 9), (1, 5), (16, 9), (0, 50), (0, 8), (0, 8), (19, 5), (1, 9), (1, 9), (1, 5), (14, 3), (15, 7), (0, 20), (0, 20), (0, 20), (0, 20), (0, 20), (0, 20), (13, 7), (0, 8), (0, 8), (1, 4096), (1, 4096), (18, 3), (0, 20), (0, 20)]) h Q := by
  refine wg_step rfl rfl (And.intro rfl ?_)
  show WG _ 0 121 [vr 6, vi 2] [] _ _ _
  refine wg_step rfl rfl ?_
  show WG _ 0 122 [vr 6, vi 2] [vr 6] _ _ _
  refine wg_step rfl rfl ?_
  show WG _ 0 125 [vr 6, vi 2] [vr 77, vr 6] _ _ _
  refine wg_step rfl rfl ?_
  show WG _ 0 126 [vr 6, vi 2] [vr 77, vr 77, vr 6] _ _ _
  exact HH
theorem con_42 {N : Nat} {h : HP} {Q : aQ} (HH : WG 2 0 129 [vr 6, vi 2] [vr 77, vr 6] (SH0 N ++ [(20, 11), (0, 10), (11, 10), (0, 100), (0, 100), (0, 100), (0, 100), (4, 20), (0, 5), (0, 5), (0, 5), (0, 5), (0, 5), (0, 5), (0, 5), (0, 5), (0, 5), (0, 5), (0, 5), (0, 5), (0, 5), (0, 5), (0, 5), (0, 5), (0, 5), (0, 5), (0, 5), (0, 5), (0, 20), (0, 20), (12, 5), (15, 7), (0, 20), (0, 20), (0, 20), (0, 20), (0, 20), (0, 20), (3, 2), (16, 9), (0, 50), (0, 8), (0, 8), (19, 5), (1, 9), (1, 9), (1, 5), (16, 9), (0, 50), (0, 8), (0, 8), (19, 5), (1, 9), (1, 9), (1, 5), (14, 3), (15, 7), (0, 20), (0, 20), (0, 20), (0, 20), (0, 20), (0, 20), (13, 7), (0, 8), (0, 8), (1, 4096), (1, 4096), (18, 3), (0, 20), (0, 20), (10, 3), (0, 12), (0, 12)]) (upd2 (new0 (upd2 (new0 h 78) 77 0 78) 79) 77 1 79) Q) : WG 2 0 126 [vr 6, vi 2] [vr 77, vr 77, vr 6] (SH0 N ++ [(20, 11), (0, 10), (11, 10), (0, 100), (0, 100), (0, 100), (0, 100), (4, 20), (0, 5), (0, 5), (0, 5), (0, 5), (0, 5), (0, 5), (0, 5), (0, 5), (0, 5), (0, 5), (0, 5), (0, 5), (0, 5), (0, 5), (0, 5), (0, 5), (0, 5), (0, 5), (0, 5), (0, 5), (0, 20), (0, 20), (12, 5), (15, 7), (0, 20), (0, 20), (0, 20), (0, 20), (0, 20), (0, 20), (3, 2), (16, 9), (0, 50), (0, 8), (0, 8), (19, 5), (1, 9), (1, 9), (1, 5), (16, 9), (0, 50), (0, 8), (0, 8), (19, 5), (1, 9), (1, 9), (1, 5), (14, 3), (15, 7), (0, 20), (0, 20), (0, 20), (0, 20), (0, 20), (0, 20), (13, 7), (0, 8), (0, 8), (1, 4096), (1, 4096), (18, 3), (0, 20), (0, 20), (10, 3)]) h Q := by
  refine wg_call (k := 135) rfl rfl (Nat.le_of_ble_eq_true rfl) (Nat.le_of_ble_eq_true rfl) (Nat.le_of_ble_eq_true rfl) (rcv_V rfl rfl) ?_
  show WG 0 135 0 [vr 77] [] (SH0 N ++ [(20, 11), (0, 10), (11, 10), (0, 100), (0, 100), (0, 100), (0, 100), (4, 20), (0, 5), (0, 5), (0, 5), (0, 5), (0, 5), (0, 5), (0, 5), (0, 5), (0, 5), (0, 5), (0, 5), (0, 5), (0, 5), (0, 5), (0, 5), (0, 5), (0, 5), (0, 5), (0, 5), (0, 5), (0, 20), (0, 20), (12, 5), (15, 7), (0, 20), (0, 20), (0, 20), (0, 20), (0, 20), (0, 20), (3, 2), (16, 9), (0, 50), (0, 8), (0, 8), (19, 5), (1, 9), (1, 9), (1, 5), (16, 9), (0, 50), (0, 8), (0, 8), (19, 5), (1, 9), (1, 9), (1, 5), (14, 3), (15, 7), (0, 20), (0, 20), (0, 20), (0, 20), (0, 20), (0, 20), (13, 7), (0, 8), (0, 8), (1, 4096), (1, 4096), (18, 3), (0, 20), (0, 20), (10, 3)]) h _
  refine con_43  ?_
  show WG _ 0 129 [vr 6, vi 2] [vr 77, vr 6] _ _ _
  exact HH
theorem con_44 {N : Nat} {h : HP} {Q : aQ} (HH : WG 2 0 156 [vr 6, vi 0] [vr 81, vr 81, vi 0, vr 80] (SH0 N ++ [(20, 11), (0, 10), (11, 10), (0, 100), (0, 100), (0, 100), (0, 100), (4, 20), (0, 5), (0, 5), (0, 5), (0, 5), (0, 5), (0, 5), (0, 5), (0, 5), (0, 5), (0, 5), (0, 5), (0, 5), (0, 5), (0, 5), (0, 5), (0, 5), (0, 5), (0, 5), (0, 5), (0, 5), (0, 20), (0, 20), (12, 5), (15, 7), (0, 20), (0, 20), (0, 20), (0, 20), (0, 20), (0, 20), (3, 2), (16, 9), (0, 50), (0, 8), (0, 8), (19, 5), (1, 9), (1, 9), (1, 5), (16, 9), (0, 50), (0, 8), (0, 8), (19, 5), (1, 9), (1, 9), (1, 5), (14, 3), (15, 7), (0, 20), (0, 20), (0, 20), (0, 20), (0, 20), (0, 20), (13, 7), (0, 8), (0, 8), (1, 4096), (1, 4096), (18, 3), (0, 20), (0, 20), (10, 3), (0, 12), (0, 12), (6, 4), (17, 3)]) (new0 (upd2 (new0 (upd2 h 6 8 77) 80) 6 9 80) 81) Q) : WG 2 0 129 [vr 6, vi 2] [vr 77, vr 6] (SH0 N ++ [(20, 11), (0, 10), (11, 10), (0, 100), (0, 100), (0, 100), (0, 100), (4, 20), (0, 5), (0, 5), (0, 5), (0, 5), (0, 5), (0, 5), (0, 5), (0, 5), (0, 5), (0, 5), (0, 5), (0, 5), (0, 5), (0, 5), (0, 5), (0, 5), (0, 5), (0, 5), (0, 5), (0, 5), (0, 20), (0, 20), (12, 5), (15, 7), (0, 20), (0, 20), (0, 20), (0, 20), (0, 20), (0, 20), (3, 2), (16, 9), (0, 50), (0, 8), (0, 8), (19, 5), (1, 9), (1, 9), (1, 5), (16, 9), (0, 50), (0, 8), (0, 8), (19, 5), (1, 9), (1, 9), (1, 5), (14, 3), (15, 7), (0, 20), (0, 20), (0, 20), (0, 20), (0, 20), (0, 20), (13, 7), (0, 8), (0, 8), (1, 4096), (1, 4096), (18, 3), (0, 20), (0, 20), (10, 3), (0, 12), (0, 12)]) h Q := by
  refine wg_step rfl rfl (And.intro rfl ?_)
  show WG _ 0 132 [vr 6, vi 2] [] _ _ _
  refine wg_step rfl rfl ?_
  show WG _ 0 133 [vr 6, vi 2] [vr 6] _ _ _
  refine wg_step rfl rfl ?_
  show WG _ 0 134 [vr 6, vi 2] [vi 4, vr 6] _ _ _
  refine wg_step rfl rfl (And.intro (And.intro (show (0 : Int) ≤ (4 : Int) by decide) (show (4 : Int) ≤ 10000 by decide)) ?_)
  show WG _ 0 137 [vr 6, vi 2] [vr 80, vr 6] _ _ _
  refine wg_step rfl rfl (And.intro rfl ?_)
  show WG _ 0 140 [vr 6, vi 2] [] _ _ _
  refine wg_step rfl rfl ?_
  show WG _ 0 141 [vr 6, vi 2] [vi 0] _ _ _
  refine wg_step rfl rfl (And.intro ((Nat.le_of_ble_eq_true rfl) : 1 < 2) ?_)
  show WG _ 0 142 [vr 6, vi 0] [] _ _ _
  refine wg_step rfl rfl ?_
  show WG _ 0 143 [vr 6, vi 0] [vi 0] _ _ _
  refine wg_step rfl rfl ?_
  show WG _ 0 144 [vr 6, vi 0] [vi 4, vi 0] _ _ _
  refine wg_step rfl rfl (And.intro (fun q => absurd (show (0 : Int) ≥ (4 : Int) from q) (by decide)) (fun _ => ?_))
  show WG _ 0 147 [vr 6, vi 0] [] _ _ _
  refine wg_step rfl rfl ?_
  show WG _ 0 148 [vr 6, vi 0] [vr 6] _ _ _
  refine wg_step rfl rfl (And.intro rfl ?_)
  show WG _ 0 151 [vr 6, vi 0] [vr 80] _ _ _
  refine wg_step rfl rfl ?_
  show WG _ 0 152 [vr 6, vi 0] [vi 0, vr 80] _ _ _
  refine wg_step rfl rfl ?_
  show WG _ 0 155 [vr 6, vi 0] [vr 81, vi 0, vr 80] _ _ _
  refine wg_step rfl rfl ?_
  show WG _ 0 156 [vr 6, vi 0] [vr 81, vr 81, vi 0, vr 80] _ _ _
  exact HH
theorem con_45 {N : Nat} {h : HP} {Q : aQ} (HH : WG 2 0 159 [vr 6, vi 0] [vr 81, vi 0, vr 80] (SH0 N ++ [(20, 11), (0, 10), (11, 10), (0, 100), (0, 100), (0, 100), (0, 100), (4, 20), (0, 5), (0, 5), (0, 5), (0, 5), (0, 5), (0, 5), (0, 5), (0, 5), (0, 5), (0, 5), (0, 5), (0, 5), (0, 5), (0, 5), (0, 5), (0, 5), (0, 5), (0, 5), (0, 5), (0, 5), (0, 20), (0, 20), (12, 5), (15, 7), (0, 20), (0, 20), (0, 20), (0, 20), (0, 20), (0, 20), (3, 2), (16, 9), (0, 50), (0, 8), (0, 8), (19, 5), (1, 9), (1, 9), (1, 5), (16, 9), (0, 50), (0, 8), (0, 8), (19, 5), (1, 9), (1, 9), (1, 5), (14, 3), (15, 7), (0, 20), (0, 20), (0, 20), (0, 20), (0, 20), (0, 20), (13, 7), (0, 8), (0, 8), (1, 4096), (1, 4096), (18, 3), (0, 20), (0, 20), (10, 3), (0, 12), (0, 12), (6, 4), (17, 3), (0, 60)]) (upd2 (upd2 (new0 h 82) 81 0 82) 81 1 (-1)) Q) : WG 2 0 156 [vr 6, vi 0] [vr 81, vr 81, vi 0, vr 80] (SH0 N ++ [(20, 11), (0, 10), (11, 10), (0, 100), (0, 100), (0, 100), (0, 100), (4, 20), (0, 5), (0, 5), (0, 5), (0, 5), (0, 5), (0, 5), (0, 5), (0, 5), (0, 5), (0, 5), (0, 5), (0, 5), (0, 5), (0, 5), (0, 5), (0, 5), (0, 5), (0, 5), (0, 5), (0, 5), (0, 20), (0, 20), (12, 5), (15, 7), (0, 20), (0, 20), (0, 20), (0, 20), (0, 20), (0, 20), (3, 2), (16, 9), (0, 50), (0, 8), (0, 8), (19, 5), (1, 9), (1, 9), (1, 5), (16, 9), (0, 50), (0, 8), (0, 8), (19, 5), (1, 9), (1, 9), (1, 5), (14, 3), (15, 7), (0, 20), (0, 20), (0, 20), (0, 20), (0, 20), (0, 20), (13, 7), (0, 8), (0, 8), (1, 4096), (1, 4096), (18, 3), (0, 20), (0, 20), (10, 3), (0, 12), (0, 12), (6, 4), (17, 3)]) h Q := by
  refine wg_call (k := 219) rfl rfl (Nat.le_of_ble_eq_true rfl) (Nat.le_of_ble_eq_true rfl) (Nat.le_of_ble_eq_true rfl) (rcv_V rfl rfl) ?_
  show WG 0 219 0 [vr 81] [] (SH0 N ++ [(20, 11), (0, 10), (11, 10), (0, 100), (0, 100), (0, 100), (0, 100), (4, 20), (0, 5), (0, 5), (0, 5), (0, 5), (0, 5), (0, 5), (0, 5), (0, 5), (0, 5), (0, 5), (0, 5), (0, 5), (0, 5), (0, 5), (0, 5), (0, 5), (0, 5), (0, 5), (0, 5), (0, 5), (0, 20), (0, 20), (12, 5), (15, 7), (0, 20), (0, 20), (0, 20), (0, 20), (0, 20), (0, 20), (3, 2), (16, 9), (0, 50), (0, 8), (0, 8), (19, 5), (1, 9), (1, 9), (1, 5), (16, 9), (0, 50), (0, 8), (0, 8), (19, 5), (1, 9), (1, 9), (1, 5), (14, 3), (15, 7), (0, 20), (0, 20), (0, 20), (0, 20), (0, 20), (0, 20), (13, 7), (0, 8), (0, 8), (1, 4096), (1, 4096), (18, 3), (0, 20), (0, 20), (10, 3), (0, 12), (0, 12), (6, 4), (17, 3)]) h _
  refine con_46  ?_
  show WG _ 0 159 [vr 6, vi 0] [vr 81, vi 0, vr 80] _ _ _
  exact HH
theorem con_47 {N : Nat} {h : HP} {Q : aQ} (e0 : h 6 9 = 80) (HH : WG 2 0 156 [vr 6, vi 1] [vr 83, vr 83, vi 1, vr 80] (SH0 N ++ [(20, 11), (0, 10), (11, 10), (0, 100), (0, 100), (0, 100), (0, 100), (4, 20), (0, 5), (0, 5), (0, 5), (0, 5), (0, 5), (0, 5), (0, 5), (0, 5), (0, 5), (0, 5), (0, 5), (0, 5), (0, 5), (0, 5), (0, 5), (0, 5), (0, 5), (0, 5), (0, 5), (0, 5), (0, 20), (0, 20), (12, 5), (15, 7), (0, 20), (0, 20), (0, 20), (0, 20), (0, 20), (0, 20), (3, 2), (16, 9), (0, 50), (0, 8), (0, 8), (19, 5), (1, 9), (1, 9), (1, 5), (16, 9), (0, 50), (0, 8), (0, 8), (19, 5), (1, 9), (1, 9), (1, 5), (14, 3), (15, 7), (0, 20), (0, 20), (0, 20), (0, 20), (0, 20), (0, 20), (13, 7), (0, 8), (0, 8), (1, 4096), (1, 4096), (18, 3), (0, 20), (0, 20), (10, 3), (0, 12), (0, 12), (6, 4), (17, 3), (0, 60), (17, 3)]) (new0 (upd2 h 80 0 81) 83) Q) : WG 2 0 159 [vr 6, vi 0] [vr 81, vi 0, vr 80] (SH0 N ++ [(20, 11), (0, 10), (11, 10), (0, 100), (0, 100), (0, 100), (0, 100), (4, 20), (0, 5), (0, 5), (0, 5), (0, 5), (0, 5), (0, 5), (0, 5), (0, 5), (0, 5), (0, 5), (0, 5), (0, 5), (0, 5), (0, 5), (0, 5), (0, 5), (0, 5), (0, 5), (0, 5), (0, 5), (0, 20), (0, 20), (12, 5), (15, 7), (0, 20), (0, 20), (0, 20), (0, 20), (0, 20), (0, 20), (3, 2), (16, 9), (0, 50), (0, 8), (0, 8), (19, 5), (1, 9), (1, 9), (1, 5), (16, 9), (0, 50), (0, 8), (0, 8), (19, 5), (1, 9), (1, 9), (1, 5), (14, 3), (15, 7), (0, 20), (0, 20), (0, 20), (0, 20), (0, 20), (0, 20), (13, 7), (0, 8), (0, 8), (1, 4096), (1, 4096), (18, 3), (0, 20), (0, 20), (10, 3), (0, 12), (0, 12), (6, 4), (17, 3), (0, 60)]) h Q := by
  refine wg_step rfl rfl (And.intro (And.intro (Or.inr (And.intro rfl rfl)) (And.intro (show (0 : Int) ≤ (0 : Int) by decide) (show (0 : Int) < ((4 : Nat) : Int) by decide))) ?_)
  show WG _ 0 160 [vr 6, vi 0] [] _ _ _
  refine wg_step rfl rfl ?_
  show WG _ 0 163 [vr 6, vi 1] [] _ _ _
  refine wg_step rfl rfl ?_
  show WG _ 0 142 [vr 6, vi 1] [] _ _ _
  refine wg_step rfl rfl ?_
  show WG _ 0 143 [vr 6, vi 1] [vi 1] _ _ _
  refine wg_step rfl rfl ?_
  show WG _ 0 144 [vr 6, vi 1] [vi 4, vi 1] _ _ _
  refine wg_step rfl rfl (And.intro (fun q => absurd (show (1 : Int) ≥ (4 : Int) from q) (by decide)) (fun _ => ?_))
  show WG _ 0 147 [vr 6, vi 1] [] _ _ _
  refine wg_step rfl rfl ?_
  show WG _ 0 148 [vr 6, vi 1] [vr 6] _ _ _
  refine wg_getR (r := 80) rfl rfl (show ((upd2 h 80 0 81)) 6 ((9 : Nat) : Int) = ((80 : Nat) : Int) from e0) ?_
  show WG _ 0 151 [vr 6, vi 1] [vr 80] _ _ _
  refine wg_step rfl rfl ?_
  show WG _ 0 152 [vr 6, vi 1] [vi 1, vr 80] _ _ _
  refine wg_step rfl rfl ?_
  show WG _ 0 155 [vr 6, vi 1] [vr 83, vi 1, vr 80] _ _ _
  refine wg_step rfl rfl ?_
  show WG _ 0 156 [vr 6, vi 1] [vr 83, vr 83, vi 1, vr 80] _ _ _
  exact HH
theorem con_48 {N : Nat} {h : HP} {Q : aQ} (HH : WG 2 0 159 [vr 6, vi 1] [vr 83, vi 1, vr 80] (SH0 N ++ [(20, 11), (0, 10), (11, 10), (0, 100), (0, 100), (0, 100), (0, 100), (4, 20), (0, 5), (0, 5), (0, 5), (0, 5), (0, 5), (0, 5), (0, 5), (0, 5), (0, 5), (0, 5), (0, 5), (0, 5), (0, 5), (0, 5), (0, 5), (0, 5), (0, 5), (0, 5), (0, 5), (0, 5), (0, 20), (0, 20), (12, 5), (15, 7), (0, 20), (0, 20), (0, 20), (0, 20), (0, 20), (0, 20), (3, 2), (16, 9), (0, 50), (0, 8), (0, 8), (19, 5), (1, 9), (1, 9), (1, 5), (16, 9), (0, 50), (0, 8), (0, 8), (19, 5), (1, 9), (1, 9), (1, 5), (14, 3), (15, 7), (0, 20), (0, 20), (0, 20), (0, 20), (0, 20), (0, 20), (13, 7), (0, 8), (0, 8), (1, 4096), (1, 4096), (18, 3), (0, 20), (0, 20), (10, 3), (0, 12), (0, 12), (6, 4), (17, 3), (0, 60), (17, 3), (0, 60)]) (upd2 (upd2 (new0 h 84) 83 0 84) 83 1 (-1)) Q) : WG 2 0 156 [vr 6, vi 1] [vr 83, vr 83, vi 1, vr 80] (SH0 N ++ [(20, 11), (0, 10), (11, 10), (0, 100), (0, 100), (0, 100), (0, 100), (4, 20), (0, 5), (0, 5), (0, 5), (0, 5), (0, 5), (0, 5), (0, 5), (0, 5), (0, 5), (0, 5), (0, 5), (0, 5), (0, 5), (0, 5), (0, 5), (0, 5), (0, 5), (0, 5), (0, 5), (0, 5), (0, 20), (0, 20), (12, 5), (15, 7), (0, 20), (0, 20), (0, 20), (0, 20), (0, 20), (0, 20), (3, 2), (16, 9), (0, 50), (0, 8), (0, 8), (19, 5), (1, 9), (1, 9), (1, 5), (16, 9), (0, 50), (0, 8), (0, 8), (19, 5), (1, 9), (1, 9), (1, 5), (14, 3), (15, 7), (0, 20), (0, 20), (0, 20), (0, 20), (0, 20), (0, 20), (13, 7), (0, 8), (0, 8), (1, 4096), (1, 4096), (18, 3), (0, 20), (0, 20), (10, 3), (0, 12), (0, 12), (6, 4), (17, 3), (0, 60), (17, 3)]) h Q := by
  refine wg_call (k := 219) rfl rfl (Nat.le_of_ble_eq_true rfl) (Nat.le_of_ble_eq_true rfl) (Nat.le_of_ble_eq_true rfl) (rcv_V rfl rfl) ?_
  show WG 0 219 0 [vr 83] [] (SH0 N ++ [(20, 11), (0, 10), (11, 10), (0, 100), (0, 100), (0, 100), (0, 100), (4, 20), (0, 5), (0, 5), (0, 5), (0, 5), (0, 5), (0, 5), (0, 5), (0, 5), (0, 5), (0, 5), (0, 5), (0, 5), (0, 5), (0, 5), (0, 5), (0, 5), (0, 5), (0, 5), (0, 5), (0, 5), (0, 20), (0, 20), (12, 5), (15, 7), (0, 20), (0, 20), (0, 20), (0, 20), (0, 20), (0, 20), (3, 2), (16, 9), (0, 50), (0, 8), (0, 8), (19, 5), (1, 9), (1, 9), (1, 5), (16, 9), (0, 50), (0, 8), (0, 8), (19, 5), (1, 9), (1, 9), (1, 5), (14, 3), (15, 7), (0, 20), (0, 20), (0, 20), (0, 20), (0, 20), (0, 20), (13, 7), (0, 8), (0, 8), (1, 4096), (1, 4096), (18, 3), (0, 20), (0, 20), (10, 3), (0, 12), (0, 12), (6, 4), (17, 3), (0, 60), (17, 3)]) h _
  refine con_49  ?_
  show WG _ 0 159 [vr 6, vi 1] [vr 83, vi 1, vr 80] _ _ _
  exact HH
theorem con_50 {N : Nat} {h : HP} {Q : aQ} (e0 : h 6 9 = 80) (HH : WG 2 0 156 [vr 6, vi 2] [vr 85, vr 85, vi 2, vr 80] (SH0 N ++ [(20, 11), (0, 10), (11, 10), (0, 100), (0, 100), (0, 100), (0, 100), (4, 20), (0, 5), (0, 5), (0, 5), (0, 5), (0, 5), (0, 5), (0, 5), (0, 5), (0, 5), (0, 5), (0, 5), (0, 5), (0, 5), (0, 5), (0, 5), (0, 5), (0, 5), (0, 5), (0, 5), (0, 5), (0, 20), (0, 20), (12, 5), (15, 7), (0, 20), (0, 20), (0, 20), (0, 20), (0, 20), (0, 20), (3, 2), (16, 9), (0, 50), (0, 8), (0, 8), (19, 5), (1, 9), (1, 9), (1, 5), (16, 9), (0, 50), (0, 8), (0, 8), (19, 5), (1, 9), (1, 9), (1, 5), (14, 3), (15, 7), (0, 20), (0, 20), (0, 20), (0, 20), (0, 20), (0, 20), (13, 7), (0, 8), (0, 8), (1, 4096), (1, 4096), (18, 3), (0, 20), (0, 20), (10, 3), (0, 12), (0, 12), (6, 4), (17, 3), (0, 60), (17, 3), (0, 60), (17, 3)]) (new0 (upd2 h 80 1 83) 85) Q) : WG 2 0 159 [vr 6, vi 1] [vr 83, vi 1, vr 80] (SH0 N ++ [(20, 11), (0, 10), (11, 10), (0, 100), (0, 100), (0, 100), (0, 100), (4, 20), (0, 5), (0, 5), (0, 5), (0, 5), (0, 5), (0, 5), (0, 5), (0, 5), (0, 5), (0, 5), (0, 5), (0, 5), (0, 5), (0, 5), (0, 5), (0, 5), (0, 5), (0, 5), (0, 5), (0, 5), (0, 20), (0, 20), (12, 5), (15, 7), (0, 20), (0, 20), (0, 20), (0, 20), (0, 20), (0, 20), (3, 2), (16, 9), (0, 50), (0, 8), (0, 8), (19, 5), (1, 9), (1, 9), (1, 5), (16, 9), (0, 50), (0, 8), (0, 8), (19, 5), (1, 9), (1, 9), (1, 5), (14, 3), (15, 7), (0, 20), (0, 20), (0, 20), (0, 20), (0, 20), (0, 20), (13, 7), (0, 8), (0, 8), (1, 4096), (1, 4096), (18, 3), (0, 20), (0, 20), (10, 3), (0, 12), (0, 12), (6, 4), (17, 3), (0, 60), (17, 3), (0, 60)]) h Q := by
  refine wg_step rfl rfl (And.intro (And.intro (Or.inr (And.intro rfl rfl)) (And.intro (show (0 : Int) ≤ (1 : Int) by decide) (show (1 : Int) < ((4 : Nat) : Int) by decide))) ?_)
  show WG _ 0 160 [vr 6, vi 1] [] _ _ _
  refine wg_step rfl rfl ?_
  show WG _ 0 163 [vr 6, vi 2] [] _ _ _
  refine wg_step rfl rfl ?_
  show WG _ 0 142 [vr 6, vi 2] [] _ _ _
  refine wg_step rfl rfl ?_
  show WG _ 0 143 [vr 6, vi 2] [vi 2] _ _ _
  refine wg_step rfl rfl ?_
  show WG _ 0 144 [vr 6, vi 2] [vi 4, vi 2] _ _ _
  refine wg_step rfl rfl (And.intro (fun q => absurd (show (2 : Int) ≥ (4 : Int) from q) (by decide)) (fun _ => ?_))
  show WG _ 0 147 [vr 6, vi 2] [] _ _ _
  refine wg_step rfl rfl ?_
  show WG _ 0 148 [vr 6, vi 2] [vr 6] _ _ _
  refine wg_getR (r := 80) rfl rfl (show ((upd2 h 80 1 83)) 6 ((9 : Nat) : Int) = ((80 : Nat) : Int) from e0) ?_
  show WG _ 0 151 [vr 6, vi 2] [vr 80] _ _ _
  refine wg_step rfl rfl ?_
  show WG _ 0 152 [vr 6, vi 2] [vi 2, vr 80] _ _ _
  refine wg_step rfl rfl ?_
  show WG _ 0 155 [vr 6, vi 2] [vr 85, vi 2, vr 80] _ _ _
  refine wg_step rfl rfl ?_
  show WG _ 0 156 [vr 6, vi 2] [vr 85, vr 85, vi 2, vr 80] _ _ _
  exact HH
theorem con_51 {N : Nat} {h : HP} {Q : aQ} (HH : WG 2 0 159 [vr 6, vi 2] [vr 85, vi 2, vr 80] (SH0 N ++ [(20, 11), (0, 10), (11, 10), (0, 100), (0, 100), (0, 100), (0, 100), (4, 20), (0, 5), (0, 5), (0, 5), (0, 5), (0, 5), (0, 5), (0, 5), (0, 5), (0, 5), (0, 5), (0, 5), (0, 5), (0, 5), (0, 5), (0, 5), (0, 5), (0, 5), (0, 5), (0, 5), (0, 5), (0, 20), (0, 20), (12, 5), (15, 7), (0, 20), (0, 20), (0, 20), (0, 20), (0, 20), (0, 20), (3, 2), (16, 9), (0, 50), (0, 8), (0, 8), (19, 5), (1, 9), (1, 9), (1, 5), (16, 9), (0, 50), (0, 8), (0, 8), (19, 5), (1, 9), (1, 9), (1, 5), (14, 3), (15, 7), (0, 20), (0, 20), (0, 20), (0, 20), (0, 20), (0, 20), (13, 7), (0, 8), (0, 8), (1, 4096), (1, 4096), (18, 3), (0, 20), (0, 20), (10, 3), (0, 12), (0, 12), (6, 4), (17, 3), (0, 60), (17, 3), (0, 60), (17, 3), (0, 60)]) (upd2 (upd2 (new0 h 86) 85 0 86) 85 1 (-1)) Q) : WG 2 0 156 [vr 6, vi 2] [vr 85, vr 85, vi 2, vr 80] (SH0 N ++ [(20, 11), (0, 10), (11, 10), (0, 100), (0, 100), (0, 100), (0, 100), (4, 20), (0, 5), (0, 5), (0, 5), (0, 5), (0, 5), (0, 5), (0, 5), (0, 5), (0, 5), (0, 5), (0, 5), (0, 5), (0, 5), (0, 5), (0, 5), (0, 5), (0, 5), (0, 5), (0, 5), (0, 5), (0, 20), (0, 20), (12, 5), (15, 7), (0, 20), (0, 20), (0, 20), (0, 20), (0, 20), (0, 20), (3, 2), (16, 9), (0, 50), (0, 8), (0, 8), (19, 5), (1, 9), (1, 9), (1, 5), (16, 9), (0, 50), (0, 8), (0, 8), (19, 5), (1, 9), (1, 9), (1, 5), (14, 3), (15, 7), (0, 20), (0, 20), (0, 20), (0, 20), (0, 20), (0, 20), (13, 7), (0, 8), (0, 8), (1, 4096), (1, 4096), (18, 3), (0, 20), (0, 20), (10, 3), (0, 12), (0, 12), (6, 4), (17, 3), (0, 60), (17, 3), (0, 60), (17, 3)]) h Q := by
  refine wg_call (k := 219) rfl rfl (Nat.le_of_ble_eq_true rfl) (Nat.le_of_ble_eq_true rfl) (Nat.le_of_ble_eq_true rfl) (rcv_V rfl rfl) ?_
  show WG 0 219 0 [vr 85] [] (SH0 N ++ [(20, 11), (0, 10), (11, 10), (0, 100), (0, 100), (0, 100), (0, 100), (4, 20), (0, 5), (0, 5), (0, 5), (0, 5), (0, 5), (0, 5), (0, 5), (0, 5), (0, 5), (0, 5), (0, 5), (0, 5), (0, 5), (0, 5), (0, 5), (0, 5), (0, 5), (0, 5), (0, 5), (0, 5), (0, 20), (0, 20), (12, 5), (15, 7), (0, 20), (0, 20), (0, 20), (0, 20), (0, 20), (0, 20), (3, 2), (16, 9), (0, 50), (0, 8), (0, 8), (19, 5), (1, 9), (1, 9), (1, 5), (16, 9), (0, 50), (0, 8), (0, 8), (19, 5), (1, 9), (1, 9), (1, 5), (14, 3), (15, 7), (0, 20), (0, 20), (0, 20), (0, 20), (0, 20), (0, 20), (13, 7), (0, 8), (0, 8), (1, 4096), (1, 4096), (18, 3), (0, 20), (0, 20), (10, 3), (0, 12), (0, 12), (6, 4), (17, 3), (0, 60), (17, 3), (0, 60), (17, 3)]) h _
  refine con_52  ?_
  show WG _ 0 159 [vr 6, vi 2] [vr 85, vi 2, vr 80] _ _ _
  exact HH
theorem con_53 {N : Nat} {h : HP} {Q : aQ} (e0 : h 6 9 = 80) (HH : WG 2 0 156 [vr 6, vi 3] [vr 87, vr 87, vi 3, vr 80] (SH0 N ++ [(20, 11), (0, 10), (11, 10), (0, 100), (0, 100), (0, 100), (0, 100), (4, 20), (0, 5), (0, 5), (0, 5), (0, 5), (0, 5), (0, 5), (0, 5), (0, 5), (0, 5), (0, 5), (0, 5), (0, 5), (0, 5), (0, 5), (0, 5), (0, 5), (0, 5), (0, 5), (0, 5), (0, 5), (0, 20), (0, 20), (12, 5), (15, 7), (0, 20), (0, 20), (0, 20), (0, 20), (0, 20), (0, 20), (3, 2), (16, 9), (0, 50), (0, 8), (0, 8), (19, 5), (1, 9), (1, 9), (1, 5), (16, 9), (0, 50), (0, 8), (0, 8), (19, 5), (1, 9), (1, 9), (1, 5), (14, 3), (15, 7), (0, 20), (0, 20), (0, 20), (0, 20), (0, 20), (0, 20), (13, 7), (0, 8), (0, 8), (1, 4096), (1, 4096), (18, 3), (0, 20), (0, 20), (10, 3), (0, 12), (0, 12), (6, 4), (17, 3), (0, 60), (17, 3), (0, 60), (17, 3), (0, 60), (17, 3)]) (new0 (upd2 h 80 2 85) 87) Q) : WG 2 0 159 [vr 6, vi 2] [vr 85, vi 2, vr 80] (SH0 N ++ [(20, 11), (0, 10), (11, 10), (0, 100), (0, 100), (0, 100), (0, 100), (4, 20), (0, 5), (0, 5), (0, 5), (0, 5), (0, 5), (0, 5), (0, 5), (0, 5), (0, 5), (0, 5), (0, 5), (0, 5), (0, 5), (0, 5), (0, 5), (0, 5), (0, 5), (0, 5), (0, 5), (0, 5), (0, 20), (0, 20), (12, 5), (15, 7), (0, 20), (0, 20), (0, 20), (0, 20), (0, 20), (0, 20), (3, 2), (16, 9), (0, 50), (0, 8), (0, 8), (19, 5), (1, 9), (1, 9), (1, 5), (16, 9), (0, 50), (0, 8), (0, 8), (19, 5), (1, 9), (1, 9), (1, 5), (14, 3), (15, 7), (0, 20), (0, 20), (0, 20), (0, 20), (0, 20), (0, 20), (13, 7), (0, 8), (0, 8), (1, 4096), (1, 4096), (18, 3), (0, 20), (0, 20), (10, 3), (0, 12), (0, 12), (6, 4), (17, 3), (0, 60), (17, 3), (0, 60), (17, 3), (0, 60)]) h Q := by
  refine wg_step rfl rfl (And.intro (And.intro (Or.inr (And.intro rfl rfl)) (And.intro (show (0 : Int) ≤ (2 : Int) by decide) (show (2 : Int) < ((4 : Nat) : Int) by decide))) ?_)
  show WG _ 0 160 [vr 6, vi 2] [] _ _ _
  refine wg_step rfl rfl ?_
  show WG _ 0 163 [vr 6, vi 3] [] _ _ _
  refine wg_step rfl rfl ?_
  show WG _ 0 142 [vr 6, vi 3] [] _ _ _
  refine wg_step rfl rfl ?_
  show WG _ 0 143 [vr 6, vi 3] [vi 3] _ _ _
  refine wg_step rfl rfl ?_
  show WG _ 0 144 [vr 6, vi 3] [vi 4, vi 3] _ _ _
  refine wg_step rfl rfl (And.intro (fun q => absurd (show (3 : Int) ≥ (4 : Int) from q) (by decide)) (fun _ => ?_))
  show WG _ 0 147 [vr 6, vi 3] [] _ _ _
  refine wg_step rfl rfl ?_
  show WG _ 0 148 [vr 6, vi 3] [vr 6] _ _ _
  refine wg_getR (r := 80) rfl rfl (show ((upd2 h 80 2 85)) 6 ((9 : Nat) : Int) = ((80 : Nat) : Int) from e0) ?_
  show WG _ 0 151 [vr 6, vi 3] [vr 80] _ _ _
  refine wg_step rfl rfl ?_
  show WG _ 0 152 [vr 6, vi 3] [vi 3, vr 80] _ _ _
  refine wg_step rfl rfl ?_
  show WG _ 0 155 [vr 6, vi 3] [vr 87, vi 3, vr 80] _ _ _
  refine wg_step rfl rfl ?_
  show WG _ 0 156 [vr 6, vi 3] [vr 87, vr 87, vi 3, vr 80] _ _ _
  exact HH
theorem con_54 {N : Nat} {h : HP} {Q : aQ} (HH : WG 2 0 159 [vr 6, vi 3] [vr 87, vi 3, vr 80] (SH0 N ++ [(20, 11), (0, 10), (11, 10), (0, 100), (0, 100), (0, 100), (0, 100), (4, 20), (0, 5), (0, 5), (0, 5), (0, 5), (0, 5), (0, 5), (0, 5), (0, 5), (0, 5), (0, 5), (0, 5), (0, 5), (0, 5), (0, 5), (0, 5), (0, 5), (0, 5), (0, 5), (0, 5), (0, 5), (0, 20), (0, 20), (12, 5), (15, 7), (0, 20), (0, 20), (0, 20), (0, 20), (0, 20), (0, 20), (3, 2), (16, 9), (0, 50), (0, 8), (0, 8), (19, 5), (1, 9), (1, 9), (1, 5), (16, 9), (0, 50), (0, 8), (0, 8), (19, 5), (1, 9), (1, 9), (1, 5), (14, 3), (15, 7), (0, 20), (0, 20), (0, 20), (0, 20), (0, 20), (0, 20), (13, 7), (0, 8), (0, 8), (1, 4096), (1, 4096), (18, 3), (0, 20), (0, 20), (10, 3), (0, 12), (0, 12), (6, 4), (17, 3), (0, 60), (17, 3), (0, 60), (17, 3), (0, 60), (17, 3), (0, 60)]) (upd2 (upd2 (new0 h 88) 87 0 88) 87 1 (-1)) Q) : WG 2 0 156 [vr 6, vi 3] [vr 87, vr 87, vi 3, vr 80] (SH0 N ++ [(20, 11), (0, 10), (11, 10), (0, 100), (0, 100), (0, 100), (0, 100), (4, 20), (0, 5), (0, 5), (0, 5), (0, 5), (0, 5), (0, 5), (0, 5), (0, 5), (0, 5), (0, 5), (0, 5), (0, 5), (0, 5), (0, 5), (0, 5), (0, 5), (0, 5), (0, 5), (0, 5), (0, 5), (0, 20), (0, 20), (12, 5), (15, 7), (0, 20), (0, 20), (0, 20), (0, 20), (0, 20), (0, 20), (3, 2), (16, 9), (0, 50), (0, 8), (0, 8), (19, 5), (1, 9), (1, 9), (1, 5), (16, 9), (0, 50), (0, 8), (0, 8), (19, 5), (1, 9), (1, 9), (1, 5), (14, 3), (15, 7), (0, 20), (0, 20), (0, 20), (0, 20), (0, 20), (0, 20), (13, 7), (0, 8), (0, 8), (1, 4096), (1, 4096), (18, 3), (0, 20), (0, 20), (10, 3), (0, 12), (0, 12), (6, 4), (17, 3), (0, 60), (17, 3), (0, 60), (17, 3), (0, 60), (17, 3)]) h Q := by
  refine wg_call (k := 219) rfl rfl (Nat.le_of_ble_eq_true rfl) (Nat.le_of_ble_eq_true rfl) (Nat.le_of_ble_eq_true rfl) (rcv_V rfl rfl) ?_
  show WG 0 219 0 [vr 87] [] (SH0 N ++ [(20, 11), (0, 10), (11, 10), (0, 100), (0, 100), (0, 100), (0, 100), (4, 20), (0, 5), (0, 5), (0, 5), (0, 5), (0, 5), (0, 5), (0, 5), (0, 5), (0, 5), (0, 5), (0, 5), (0, 5), (0, 5), (0, 5), (0, 5), (0, 5), (0, 5), (0, 5), (0, 5), (0, 5), (0, 20), (0, 20), (12, 5), (15, 7), (0, 20), (0, 20), (0, 20), (0, 20), (0, 20), (0, 20), (3, 2), (16, 9), (0, 50), (0, 8), (0, 8), (19, 5), (1, 9), (1, 9), (1, 5), (16, 9), (0, 50), (0, 8), (0, 8), (19, 5), (1, 9), (1, 9), (1, 5), (14, 3), (15, 7), (0, 20), (0, 20), (0, 20), (0, 20), (0, 20), (0, 20), (13, 7), (0, 8), (0, 8), (1, 4096), (1, 4096), (18, 3), (0, 20), (0, 20), (10, 3), (0, 12), (0, 12), (6, 4), (17, 3), (0, 60), (17, 3), (0, 60), (17, 3), (0, 60), (17, 3)]) h _
  refine con_55  ?_
  show WG _ 0 159 [vr 6, vi 3] [vr 87, vi 3, vr 80] _ _ _
  exact HH
theorem con_56 {N : Nat} {h : HP} {Q : aQ} (HH : Q none (SH0 N ++ [(20, 11), (0, 10), (11, 10), (0, 100), (0, 100), (0, 100), (0, 100), (4, 20), (0, 5), (0, 5), (0, 5), (0, 5), (0, 5), (0, 5), (0, 5), (0, 5), (0, 5), (0, 5), (0, 5), (0, 5), (0, 5), (0, 5), (0, 5), (0, 5), (0, 5), (0, 5), (0, 5), (0, 5), (0, 20), (0, 20), (12, 5), (15, 7), (0, 20), (0, 20), (0, 20), (0, 20), (0, 20), (0, 20), (3, 2), (16, 9), (0, 50), (0, 8), (0, 8), (19, 5), (1, 9), (1, 9), (1, 5), (16, 9), (0, 50), (0, 8), (0, 8), (19, 5), (1, 9), (1, 9), (1, 5), (14, 3), (15, 7), (0, 20), (0, 20), (0, 20), (0, 20), (0, 20), (0, 20), (13, 7), (0, 8), (0, 8), (1, 4096), (1, 4096), (18, 3), (0, 20), (0, 20), (10, 3), (0, 12), (0, 12), (6, 4), (17, 3), (0, 60), (17, 3), (0, 60), (17, 3), (0, 60), (17, 3), (0, 60)]) (upd2 h 80 3 87)) : WG 2 0 159 [vr 6, vi 3] [vr 87, vi 3, vr 80] (SH0 N ++ [(20, 11), (0, 10), (11, 10), (0, 100), (0, 100), (0, 100), (0, 100), (4, 20), (0, 5), (0, 5), (0, 5), (0, 5), (0, 5), (0, 5), (0, 5), (0, 5), (0, 5), (0, 5), (0, 5), (0, 5), (0, 5), (0, 5), (0, 5), (0, 5), (0, 5), (0, 5), (0, 5), (0, 5), (0, 20), (0, 20), (12, 5), (15, 7), (0, 20), (0, 20), (0, 20), (0, 20), (0, 20), (0, 20), (3, 2), (16, 9), (0, 50), (0, 8), (0, 8), (19, 5), (1, 9), (1, 9), (1, 5), (16, 9), (0, 50), (0, 8), (0, 8), (19, 5), (1, 9), (1, 9), (1, 5), (14, 3), (15, 7), (0, 20), (0, 20), (0, 20), (0, 20), (0, 20), (0, 20), (13, 7), (0, 8), (0, 8), (1, 4096), (1, 4096), (18, 3), (0, 20), (0, 20), (10, 3), (0, 12), (0, 12), (6, 4), (17, 3), (0, 60), (17, 3), (0, 60), (17, 3), (0, 60), (17, 3), (0, 60)]) h Q := by
  refine wg_step rfl rfl (And.intro (And.intro (Or.inr (And.intro rfl rfl)) (And.intro (show (0 : Int) ≤ (3 : Int) by decide) (show (3 : Int) < ((4 : Nat) : Int) by decide))) ?_)
  show WG _ 0 160 [vr 6, vi 3] [] _ _ _
  refine wg_step rfl rfl ?_
  show WG _ 0 163 [vr 6, vi 4] [] _ _ _
  refine wg_step rfl rfl ?_
  show WG _ 0 142 [vr 6, vi 4] [] _ _ _
  refine wg_step rfl rfl ?_
  show WG _ 0 143 [vr 6, vi 4] [vi 4] _ _ _
  refine wg_step rfl rfl ?_
  show WG _ 0 144 [vr 6, vi 4] [vi 4, vi 4] _ _ _
  refine wg_step rfl rfl (And.intro (fun _ => ?_) (fun q => absurd (show (4 : Int) ≥ (4 : Int) by decide) q))
  show WG _ 0 166 [vr 6, vi 4] [] _ _ _
  exact wg_vret rfl rfl HH
theorem con_57 {N : Nat} {h : HP} {Q : aQ} (HH : Q none (SH0 N ++ [(20, 11), (0, 10), (11, 10), (0, 100), (0, 100), (0, 100), (0, 100), (4, 20), (0, 5), (0, 5), (0, 5), (0, 5), (0, 5), (0, 5), (0, 5), (0, 5), (0, 5), (0, 5), (0, 5), (0, 5), (0, 5), (0, 5), (0, 5), (0, 5), (0, 5), (0, 5), (0, 5), (0, 5), (0, 20), (0, 20), (12, 5), (15, 7), (0, 20), (0, 20), (0, 20), (0, 20), (0, 20), (0, 20), (3, 2), (16, 9), (0, 50), (0, 8), (0, 8), (19, 5), (1, 9), (1, 9), (1, 5), (16, 9), (0, 50), (0, 8), (0, 8), (19, 5), (1, 9), (1, 9), (1, 5), (14, 3), (15, 7), (0, 20), (0, 20), (0, 20), (0, 20), (0, 20), (0, 20), (13, 7), (0, 8), (0, 8), (1, 4096), (1, 4096), (18, 3), (0, 20), (0, 20), (10, 3), (0, 12), (0, 12), (6, 4), (17, 3), (0, 60), (17, 3), (0, 60), (17, 3), (0, 60), (17, 3), (0, 60)]) (upd2 (upd2 (upd2 (new0 (new0 (upd2 (upd2 (upd2 (new0 (new0 (upd2 (upd2 (upd2 (new0 (new0 (upd2 (upd2 (upd2 (new0 (new0 (upd2 (new0 (upd2 (upd2 (new0 (upd2 (new0 (new0 (upd2 (upd2 (new0 (upd2 (new0 (new0 (upd2 (upd2 (upd2 (new0 (upd2 (new0 (upd2 (new0 (upd2 (upd2 (upd2 (upd2 (upd2 (upd2 (upd2 (upd2 (upd2 (new0 (new0 (upd2 (upd2 (upd2 (upd2 (new0 (upd2 (new0 (upd2 (new0 (upd2 (new0 (upd2 (new0 (upd2 (new0 (new0 (new0 (upd2 (upd2 (upd2 (upd2 (upd2 (upd2 (new0 (upd2 (new0 (upd2 (new0 (new0 (upd2 (new0 (upd2 (new0 (upd2 (new0 (new0 (upd2 (upd2 (upd2 (upd2 (upd2 (upd2 (new0 (upd2 (new0 (upd2 (new0 (new0 (upd2 (new0 (upd2 (new0 (upd2 (new0 (new0 (upd2 (new0 (upd2 (upd2 (new0 (upd2 (new0 (upd2 (new0 (upd2 (new0 (upd2 (new0 (upd2 (new0 (new0 (upd2 (new0 (upd2 (upd2 (new0 (upd2 (new0 (upd2 (newM (upd2 (new0 (upd2 (new0 (upd2 (new0 (upd2 (new0 (new0 (upd2 (cloH (new0 h 7) 7 1) 6 0 7) 8) 9) 8 0 9) 10) 8 1 10) 11) 8 2 11) 12) 8 3 12) 13 20) 8 4 13) 34) 8 5 34) 35) 8 6 35) 6 1 8) 36) 6 2 36) 37) 38) 37 0 38) 39) 37 1 39) 40) 37 2 40) 41) 37 3 41) 42) 37 4 42) 43) 37 5 43) 6 3 37) 44) 6 4 44) 45) 46) 45 0 46) 47) 45 1 47) 48) 45 2 48) 49) 50) 49 0 50) 51) 49 1 51) 52) 49 2 52) 45 3 49) 45 6 (-1)) 45 7 99) 45 8 99) 44 0 45) 53) 54) 53 0 54) 55) 53 1 55) 56) 53 2 56) 57) 58) 57 0 58) 59) 57 1 59) 60) 57 2 60) 53 3 57) 53 6 (-1)) 53 7 99) 53 8 99) 44 1 53) 61) 62) 63) 62 0 63) 64) 62 1 64) 65) 62 2 65) 66) 62 3 66) 67) 62 4 67) 68) 62 5 68) 61 0 62) 61 1 37) 6 5 61) 69) 70) 70 0 0) 70 1 2) 70 2 9) 70 3 21) 70 4 21) 70 5 9) 70 6 2) 70 7 0) 69 0 70) 71) 69 1 71) 72) 69 2 72) 73) 69 3 73) 69 6 1) 6 6 69) 74) 75) 74 0 75) 76) 74 1 76) 6 7 74) 77) 78) 77 0 78) 79) 77 1 79) 6 8 77) 80) 6 9 80) 81) 82) 81 0 82) 81 1 (-1)) 80 0 81) 83) 84) 83 0 84) 83 1 (-1)) 80 1 83) 85) 86) 85 0 86) 85 1 (-1)) 80 2 85) 87) 88) 87 0 88) 87 1 (-1)) 80 3 87)) : WG 2 0 0 [vr 6, vu] [] (SH0 N ++ [(20, 11)]) h Q := by
  refine con_3  ?_
  refine con_4  ?_
  refine con_6  ?_
  refine con_7  ?_
  refine con_9  ?_
  refine con_10  ?_
  refine con_12  ?_
  refine con_13  ?_
  refine con_19 (show ((upd2 (upd2 (upd2 (upd2 (upd2 (new0 (upd2 (new0 (upd2 (new0 (new0 (upd2 (new0 (upd2 (new0 (upd2 (new0 (new0 (upd2 (new0 (upd2 (upd2 (new0 (upd2 (new0 (upd2 (new0 (upd2 (new0 (upd2 (new0 (upd2 (new0 (new0 (upd2 (new0 (upd2 (upd2 (new0 (upd2 (new0 (upd2 (newM (upd2 (new0 (upd2 (new0 (upd2 (new0 (upd2 (new0 (new0 (upd2 (cloH (new0 h 7) 7 1) 6 0 7) 8) 9) 8 0 9) 10) 8 1 10) 11) 8 2 11) 12) 8 3 12) 13 20) 8 4 13) 34) 8 5 34) 35) 8 6 35) 6 1 8) 36) 6 2 36) 37) 38) 37 0 38) 39) 37 1 39) 40) 37 2 40) 41) 37 3 41) 42) 37 4 42) 43) 37 5 43) 6 3 37) 44) 6 4 44) 45) 46) 45 0 46) 47) 45 1 47) 48) 45 2 48) 49) 50) 49 0 50) 51) 49 1 51) 52) 49 2 52) 45 3 49) 45 6 (-1)) 45 7 99) 45 8 99)) 6 4 = 44 from rfl) ?_
  refine con_20  ?_
  refine con_26 (show ((upd2 (upd2 (upd2 (upd2 (upd2 (new0 (upd2 (new0 (upd2 (new0 (new0 (upd2 (new0 (upd2 (new0 (upd2 (new0 (new0 (upd2 (upd2 (upd2 (upd2 (upd2 (upd2 (new0 (upd2 (new0 (upd2 (new0 (new0 (upd2 (new0 (upd2 (new0 (upd2 (new0 (new0 (upd2 (new0 (upd2 (upd2 (new0 (upd2 (new0 (upd2 (new0 (upd2 (new0 (upd2 (new0 (upd2 (new0 (new0 (upd2 (new0 (upd2 (upd2 (new0 (upd2 (new0 (upd2 (newM (upd2 (new0 (upd2 (new0 (upd2 (new0 (upd2 (new0 (new0 (upd2 (cloH (new0 h 7) 7 1) 6 0 7) 8) 9) 8 0 9) 10) 8 1 10) 11) 8 2 11) 12) 8 3 12) 13 20) 8 4 13) 34) 8 5 34) 35) 8 6 35) 6 1 8) 36) 6 2 36) 37) 38) 37 0 38) 39) 37 1 39) 40) 37 2 40) 41) 37 3 41) 42) 37 4 42) 43) 37 5 43) 6 3 37) 44) 6 4 44) 45) 46) 45 0 46) 47) 45 1 47) 48) 45 2 48) 49) 50) 49 0 50) 51) 49 1 51) 52) 49 2 52) 45 3 49) 45 6 (-1)) 45 7 99) 45 8 99) 44 0 45) 53) 54) 53 0 54) 55) 53 1 55) 56) 53 2 56) 57) 58) 57 0 58) 59) 57 1 59) 60) 57 2 60) 53 3 57) 53 6 (-1)) 53 7 99) 53 8 99)) 6 3 = 37 from rfl) ?_
  refine con_27  ?_
  refine con_33  ?_
  refine con_34  ?_
  refine con_38  ?_
  refine con_39  ?_
  refine con_41  ?_
  refine con_42  ?_
  refine con_44  ?_
  refine con_45  ?_
  refine con_47 (show ((upd2 (upd2 (new0 (new0 (upd2 (new0 (upd2 (upd2 (new0 (upd2 (new0 (new0 (upd2 (upd2 (new0 (upd2 (new0 (new0 (upd2 (upd2 (upd2 (new0 (upd2 (new0 (upd2 (new0 (upd2 (upd2 (upd2 (upd2 (upd2 (upd2 (upd2 (upd2 (upd2 (new0 (new0 (upd2 (upd2 (upd2 (upd2 (new0 (upd2 (new0 (upd2 (new0 (upd2 (new0 (upd2 (new0 (upd2 (new0 (new0 (new0 (upd2 (upd2 (upd2 (upd2 (upd2 (upd2 (new0 (upd2 (new0 (upd2 (new0 (new0 (upd2 (new0 (upd2 (new0 (upd2 (new0 (new0 (upd2 (upd2 (upd2 (upd2 (upd2 (upd2 (new0 (upd2 (new0 (upd2 (new0 (new0 (upd2 (new0 (upd2 (new0 (upd2 (new0 (new0 (upd2 (new0 (upd2 (upd2 (new0 (upd2 (new0 (upd2 (new0 (upd2 (new0 (upd2 (new0 (upd2 (new0 (new0 (upd2 (new0 (upd2 (upd2 (new0 (upd2 (new0 (upd2 (newM (upd2 (new0 (upd2 (new0 (upd2 (new0 (upd2 (new0 (new0 (upd2 (cloH (new0 h 7) 7 1) 6 0 7) 8) 9) 8 0 9) 10) 8 1 10) 11) 8 2 11) 12) 8 3 12) 13 20) 8 4 13) 34) 8 5 34) 35) 8 6 35) 6 1 8) 36) 6 2 36) 37) 38) 37 0 38) 39) 37 1 39) 40) 37 2 40) 41) 37 3 41) 42) 37 4 42) 43) 37 5 43) 6 3 37) 44) 6 4 44) 45) 46) 45 0 46) 47) 45 1 47) 48) 45 2 48) 49) 50) 49 0 50) 51) 49 1 51) 52) 49 2 52) 45 3 49) 45 6 (-1)) 45 7 99) 45 8 99) 44 0 45) 53) 54) 53 0 54) 55) 53 1 55) 56) 53 2 56) 57) 58) 57 0 58) 59) 57 1 59) 60) 57 2 60) 53 3 57) 53 6 (-1)) 53 7 99) 53 8 99) 44 1 53) 61) 62) 63) 62 0 63) 64) 62 1 64) 65) 62 2 65) 66) 62 3 66) 67) 62 4 67) 68) 62 5 68) 61 0 62) 61 1 37) 6 5 61) 69) 70) 70 0 0) 70 1 2) 70 2 9) 70 3 21) 70 4 21) 70 5 9) 70 6 2) 70 7 0) 69 0 70) 71) 69 1 71) 72) 69 2 72) 73) 69 3 73) 69 6 1) 6 6 69) 74) 75) 74 0 75) 76) 74 1 76) 6 7 74) 77) 78) 77 0 78) 79) 77 1 79) 6 8 77) 80) 6 9 80) 81) 82) 81 0 82) 81 1 (-1))) 6 9 = 80 from rfl) ?_
  refine con_48  ?_
  refine con_50 (show ((upd2 (upd2 (new0 (new0 (upd2 (upd2 (upd2 (new0 (new0 (upd2 (new0 (upd2 (upd2 (new0 (upd2 (new0 (new0 (upd2 (upd2 (new0 (upd2 (new0 (new0 (upd2 (upd2 (upd2 (new0 (upd2 (new0 (upd2 (new0 (upd2 (upd2 (upd2 (upd2 (upd2 (upd2 (upd2 (upd2 (upd2 (new0 (new0 (upd2 (upd2 (upd2 (upd2 (new0 (upd2 (new0 (upd2 (new0 (upd2 (new0 (upd2 (new0 (upd2 (new0 (new0 (new0 (upd2 (upd2 (upd2 (upd2 (upd2 (upd2 (new0 (upd2 (new0 (upd2 (new0 (new0 (upd2 (new0 (upd2 (new0 (upd2 (new0 (new0 (upd2 (upd2 (upd2 (upd2 (upd2 (upd2 (new0 (upd2 (new0 (upd2 (new0 (new0 (upd2 (new0 (upd2 (new0 (upd2 (new0 (new0 (upd2 (new0 (upd2 (upd2 (new0 (upd2 (new0 (upd2 (new0 (upd2 (new0 (upd2 (new0 (upd2 (new0 (new0 (upd2 (new0 (upd2 (upd2 (new0 (upd2 (new0 (upd2 (newM (upd2 (new0 (upd2 (new0 (upd2 (new0 (upd2 (new0 (new0 (upd2 (cloH (new0 h 7) 7 1) 6 0 7) 8) 9) 8 0 9) 10) 8 1 10) 11) 8 2 11) 12) 8 3 12) 13 20) 8 4 13) 34) 8 5 34) 35) 8 6 35) 6 1 8) 36) 6 2 36) 37) 38) 37 0 38) 39) 37 1 39) 40) 37 2 40) 41) 37 3 41) 42) 37 4 42) 43) 37 5 43) 6 3 37) 44) 6 4 44) 45) 46) 45 0 46) 47) 45 1 47) 48) 45 2 48) 49) 50) 49 0 50) 51) 49 1 51) 52) 49 2 52) 45 3 49) 45 6 (-1)) 45 7 99) 45 8 99) 44 0 45) 53) 54) 53 0 54) 55) 53 1 55) 56) 53 2 56) 57) 58) 57 0 58) 59) 57 1 59) 60) 57 2 60) 53 3 57) 53 6 (-1)) 53 7 99) 53 8 99) 44 1 53) 61) 62) 63) 62 0 63) 64) 62 1 64) 65) 62 2 65) 66) 62 3 66) 67) 62 4 67) 68) 62 5 68) 61 0 62) 61 1 37) 6 5 61) 69) 70) 70 0 0) 70 1 2) 70 2 9) 70 3 21) 70 4 21) 70 5 9) 70 6 2) 70 7 0) 69 0 70) 71) 69 1 71) 72) 69 2 72) 73) 69 3 73) 69 6 1) 6 6 69) 74) 75) 74 0 75) 76) 74 1 76) 6 7 74) 77) 78) 77 0 78) 79) 77 1 79) 6 8 77) 80) 6 9 80) 81) 82) 81 0 82) 81 1 (-1)) 80 0 81) 83) 84) 83 0 84) 83 1 (-1))) 6 9 = 80 from rfl) ?_
  refine con_51  ?_
  refine con_53 (show ((upd2 (upd2 (new0 (new0 (upd2 (upd2 (upd2 (new0 (new0 (upd2 (upd2 (upd2 (new0 (new0 (upd2 (new0 (upd2 (upd2 (new0 (upd2 (new0 (new0 (upd2 (upd2 (new0 (upd2 (new0 (new0 (upd2 (upd2 (upd2 (new0 (upd2 (new0 (upd2 (new0 (upd2 (upd2 (upd2 (upd2 (upd2 (upd2 (upd2 (upd2 (upd2 (new0 (new0 (upd2 (upd2 (upd2 (upd2 (new0 (upd2 (new0 (upd2 (new0 (upd2 (new0 (upd2 (new0 (upd2 (new0 (new0 (new0 (upd2 (upd2 (upd2 (upd2 (upd2 (upd2 (new0 (upd2 (new0 (upd2 (new0 (new0 (upd2 (new0 (upd2 (new0 (upd2 (new0 (new0 (upd2 (upd2 (upd2 (upd2 (upd2 (upd2 (new0 (upd2 (new0 (upd2 (new0 (new0 (upd2 (new0 (upd2 (new0 (upd2 (new0 (new0 (upd2 (new0 (upd2 (upd2 (new0 (upd2 (new0 (upd2 (new0 (upd2 (new0 (upd2 (new0 (upd2 (new0 (new0 (upd2 (new0 (upd2 (upd2 (new0 (upd2 (new0 (upd2 (newM (upd2 (new0 (upd2 (new0 (upd2 (new0 (upd2 (new0 (new0 (upd2 (cloH (new0 h 7) 7 1) 6 0 7) 8) 9) 8 0 9) 10) 8 1 10) 11) 8 2 11) 12) 8 3 12) 13 20) 8 4 13) 34) 8 5 34) 35) 8 6 35) 6 1 8) 36) 6 2 36) 37) 38) 37 0 38) 39) 37 1 39) 40) 37 2 40) 41) 37 3 41) 42) 37 4 42) 43) 37 5 43) 6 3 37) 44) 6 4 44) 45) 46) 45 0 46) 47) 45 1 47) 48) 45 2 48) 49) 50) 49 0 50) 51) 49 1 51) 52) 49 2 52) 45 3 49) 45 6 (-1)) 45 7 99) 45 8 99) 44 0 45) 53) 54) 53 0 54) 55) 53 1 55) 56) 53 2 56) 57) 58) 57 0 58) 59) 57 1 59) 60) 57 2 60) 53 3 57) 53 6 (-1)) 53 7 99) 53 8 99) 44 1 53) 61) 62) 63) 62 0 63) 64) 62 1 64) 65) 62 2 65) 66) 62 3 66) 67) 62 4 67) 68) 62 5 68) 61 0 62) 61 1 37) 6 5 61) 69) 70) 70 0 0) 70 1 2) 70 2 9) 70 3 21) 70 4 21) 70 5 9) 70 6 2) 70 7 0) 69 0 70) 71) 69 1 71) 72) 69 2 72) 73) 69 3 73) 69 6 1) 6 6 69) 74) 75) 74 0 75) 76) 74 1 76) 6 7 74) 77) 78) 77 0 78) 79) 77 1 79) 6 8 77) 80) 6 9 80) 81) 82) 81 0 82) 81 1 (-1)) 80 0 81) 83) 84) 83 0 84) 83 1 (-1)) 80 1 83) 85) 86) 85 0 86) 85 1 (-1))) 6 9 = 80 from rfl) ?_
  refine con_54  ?_
  refine con_56  ?_
  exact HH
theorem con_60 {N : Nat} {h : HP} {Q : aQ} (HH : WG 0 47 88 [vr 89, vu] [vr 100, vr 89] (SH0 N ++ [(20, 11), (0, 10), (11, 10), (0, 100), (0, 100), (0, 100), (0, 100), (4, 20), (0, 5), (0, 5), (0, 5), (0, 5), (0, 5), (0, 5), (0, 5), (0, 5), (0, 5), (0, 5), (0, 5), (0, 5), (0, 5), (0, 5), (0, 5), (0, 5), (0, 5), (0, 5), (0, 5), (0, 5), (0, 20), (0, 20), (12, 5), (15, 7), (0, 20), (0, 20), (0, 20), (0, 20), (0, 20), (0, 20), (3, 2), (16, 9), (0, 50), (0, 8), (0, 8), (19, 5), (1, 9), (1, 9), (1, 5), (16, 9), (0, 50), (0, 8), (0, 8), (19, 5), (1, 9), (1, 9), (1, 5), (14, 3), (15, 7), (0, 20), (0, 20), (0, 20), (0, 20), (0, 20), (0, 20), (13, 7), (0, 8), (0, 8), (1, 4096), (1, 4096), (18, 3), (0, 20), (0, 20), (10, 3), (0, 12), (0, 12), (6, 4), (17, 3), (0, 60), (17, 3), (0, 60), (17, 3), (0, 60), (17, 3), (0, 60), (21, 41), (0, 4), (0, 4), (0, 240), (0, 60), (0, 100), (0, 100), (0, 100), (0, 10), (0, 100), (0, 20), (0, 20)]) (new0 (upd2 (new0 (upd2 (new0 (upd2 (new0 (upd2 (new0 (upd2 (new0 (upd2 (new0 (upd2 (new0 (upd2 (new0 (upd2 (new0 (upd2 (new0 h 90) 89 0 90) 91) 89 1 91) 92) 89 2 92) 93) 89 3 93) 94) 89 7 94) 95) 89 8 95) 96) 89 9 96) 97) 89 10 97) 98) 89 11 98) 99) 89 12 99) 100) Q) : WG 0 47 0 [vr 89, vu] [] (SH0 N ++ [(20, 11), (0, 10), (11, 10), (0, 100), (0, 100), (0, 100), (0, 100), (4, 20), (0, 5), (0, 5), (0, 5), (0, 5), (0, 5), (0, 5), (0, 5), (0, 5), (0, 5), (0, 5), (0, 5), (0, 5), (0, 5), (0, 5), (0, 5), (0, 5), (0, 5), (0, 5), (0, 5), (0, 5), (0, 20), (0, 20), (12, 5), (15, 7), (0, 20), (0, 20), (0, 20), (0, 20), (0, 20), (0, 20), (3, 2), (16, 9), (0, 50), (0, 8), (0, 8), (19, 5), (1, 9), (1, 9), (1, 5), (16, 9), (0, 50), (0, 8), (0, 8), (19, 5), (1, 9), (1, 9), (1, 5), (14, 3), (15, 7), (0, 20), (0, 20), (0, 20), (0, 20), (0, 20), (0, 20), (13, 7), (0, 8), (0, 8), (1, 4096), (1, 4096), (18, 3), (0, 20), (0, 20), (10, 3), (0, 12), (0, 12), (6, 4), (17, 3), (0, 60), (17, 3), (0, 60), (17, 3), (0, 60), (17, 3), (0, 60), (21, 41)]) h Q := by
  refine wg_step rfl rfl ?_
  show WG _ 47 1 [vr 89, vu] [vr 89] _ _ _
  refine wg_step rfl rfl (And.intro (And.intro (Nat.le_of_ble_eq_true rfl) (Nat.le_of_ble_eq_true rfl)) ?_)
  show WG _ 47 4 [vr 89, vu] [] _ _ _
  refine wg_step rfl rfl ?_
  show WG _ 47 5 [vr 89, vu] [vr 89] _ _ _
  refine wg_step rfl rfl ?_
  show WG _ 47 6 [vr 89, vu] [vi 4, vr 89] _ _ _
  refine wg_step rfl rfl (And.intro (And.intro (show (0 : Int) ≤ (4 : Int) by decide) (show (4 : Int) ≤ 10000 by decide)) ?_)
  show WG _ 47 8 [vr 89, vu] [vr 90, vr 89] _ _ _
  refine wg_step rfl rfl (And.intro rfl ?_)
  show WG _ 47 11 [vr 89, vu] [] _ _ _
  refine wg_step rfl rfl ?_
  show WG _ 47 12 [vr 89, vu] [vr 89] _ _ _
  refine wg_step rfl rfl ?_
  show WG _ 47 13 [vr 89, vu] [vi 4, vr 89] _ _ _
  refine wg_step rfl rfl (And.intro (And.intro (show (0 : Int) ≤ (4 : Int) by decide) (show (4 : Int) ≤ 10000 by decide)) ?_)
  show WG _ 47 15 [vr 89, vu] [vr 91, vr 89] _ _ _
  refine wg_step rfl rfl (And.intro rfl ?_)
  show WG _ 47 18 [vr 89, vu] [] _ _ _
  refine wg_step rfl rfl ?_
  show WG _ 47 19 [vr 89, vu] [vr 89] _ _ _
  refine wg_step rfl rfl ?_
  show WG _ 47 22 [vr 89, vu] [vi 240, vr 89] _ _ _
  refine wg_step rfl rfl (And.intro (And.intro (show (0 : Int) ≤ (240 : Int) by decide) (show (240 : Int) ≤ 10000 by decide)) ?_)
  show WG _ 47 24 [vr 89, vu] [vr 92, vr 89] _ _ _
  refine wg_step rfl rfl (And.intro rfl ?_)
  show WG _ 47 27 [vr 89, vu] [] _ _ _
  refine wg_step rfl rfl ?_
  show WG _ 47 28 [vr 89, vu] [vr 89] _ _ _
  refine wg_step rfl rfl ?_
  show WG _ 47 30 [vr 89, vu] [vi 60, vr 89] _ _ _
  refine wg_step rfl rfl (And.intro (And.intro (show (0 : Int) ≤ (60 : Int) by decide) (show (60 : Int) ≤ 10000 by decide)) ?_)
  show WG _ 47 32 [vr 89, vu] [vr 93, vr 89] _ _ _
  refine wg_step rfl rfl (And.intro rfl ?_)
  show WG _ 47 35 [vr 89, vu] [] _ _ _
  refine wg_step rfl rfl ?_
  show WG _ 47 36 [vr 89, vu] [vr 89] _ _ _
  refine wg_step rfl rfl ?_
  show WG _ 47 38 [vr 89, vu] [vi 100, vr 89] _ _ _
  refine wg_step rfl rfl (And.intro (And.intro (show (0 : Int) ≤ (100 : Int) by decide) (show (100 : Int) ≤ 10000 by decide)) ?_)
  show WG _ 47 40 [vr 89, vu] [vr 94, vr 89] _ _ _
  refine wg_step rfl rfl (And.intro rfl ?_)
  show WG _ 47 43 [vr 89, vu] [] _ _ _
  refine wg_step rfl rfl ?_
  show WG _ 47 44 [vr 89, vu] [vr 89] _ _ _
  refine wg_step rfl rfl ?_
  show WG _ 47 46 [vr 89, vu] [vi 100, vr 89] _ _ _
  refine wg_step rfl rfl (And.intro (And.intro (show (0 : Int) ≤ (100 : Int) by decide) (show (100 : Int) ≤ 10000 by decide)) ?_)
  show WG _ 47 48 [vr 89, vu] [vr 95, vr 89] _ _ _
  refine wg_step rfl rfl (And.intro rfl ?_)
  show WG _ 47 51 [vr 89, vu] [] _ _ _
  refine wg_step rfl rfl ?_
  show WG _ 47 52 [vr 89, vu] [vr 89] _ _ _
  refine wg_step rfl rfl ?_
  show WG _ 47 54 [vr 89, vu] [vi 100, vr 89] _ _ _
  refine wg_step rfl rfl (And.intro (And.intro (show (0 : Int) ≤ (100 : Int) by decide) (show (100 : Int) ≤ 10000 by decide)) ?_)
  show WG _ 47 56 [vr 89, vu] [vr 96, vr 89] _ _ _
  refine wg_step rfl rfl (And.intro rfl ?_)
  show WG _ 47 59 [vr 89, vu] [] _ _ _
  refine wg_step rfl rfl ?_
  show WG _ 47 60 [vr 89, vu] [vr 89] _ _ _
  refine wg_step rfl rfl ?_
  show WG _ 47 62 [vr 89, vu] [vi 10, vr 89] _ _ _
  refine wg_step rfl rfl (And.intro (And.intro (show (0 : Int) ≤ (10 : Int) by decide) (show (10 : Int) ≤ 10000 by decide)) ?_)
  show WG _ 47 64 [vr 89, vu] [vr 97, vr 89] _ _ _
  refine wg_step rfl rfl (And.intro rfl ?_)
  show WG _ 47 67 [vr 89, vu] [] _ _ _
  refine wg_step rfl rfl ?_
  show WG _ 47 68 [vr 89, vu] [vr 89] _ _ _
  refine wg_step rfl rfl ?_
  show WG _ 47 70 [vr 89, vu] [vi 100, vr 89] _ _ _
  refine wg_step rfl rfl (And.intro (And.intro (show (0 : Int) ≤ (100 : Int) by decide) (show (100 : Int) ≤ 10000 by decide)) ?_)
  show WG _ 47 72 [vr 89, vu] [vr 98, vr 89] _ _ _
  refine wg_step rfl rfl (And.intro rfl ?_)
  show WG _ 47 75 [vr 89, vu] [] _ _ _
  refine wg_step rfl rfl ?_
  show WG _ 47 76 [vr 89, vu] [vr 89] _ _ _
  refine wg_step rfl rfl ?_
  show WG _ 47 78 [vr 89, vu] [vi 20, vr 89] _ _ _
  refine wg_step rfl rfl (And.intro (And.intro (show (0 : Int) ≤ (20 : Int) by decide) (show (20 : Int) ≤ 10000 by decide)) ?_)
  show WG _ 47 80 [vr 89, vu] [vr 99, vr 89] _ _ _
  refine wg_step rfl rfl (And.intro rfl ?_)
  show WG _ 47 83 [vr 89, vu] [] _ _ _
  refine wg_step rfl rfl ?_
  show WG _ 47 84 [vr 89, vu] [vr 89] _ _ _
  refine wg_step rfl rfl ?_
  show WG _ 47 86 [vr 89, vu] [vi 20, vr 89] _ _ _
  refine wg_step rfl rfl (And.intro (And.intro (show (0 : Int) ≤ (20 : Int) by decide) (show (20 : Int) ≤ 10000 by decide)) ?_)
  show WG _ 47 88 [vr 89, vu] [vr 100, vr 89] _ _ _
  exact HH
theorem con_61 {N : Nat} {h : HP} {Q : aQ} (HH : WG 0 47 178 [vr 89, vu] [] (SH0 N ++ [(20, 11), (0, 10), (11, 10), (0, 100), (0, 100), (0, 100), (0, 100), (4, 20), (0, 5), (0, 5), (0, 5), (0, 5), (0, 5), (0, 5), (0, 5), (0, 5), (0, 5), (0, 5), (0, 5), (0, 5), (0, 5), (0, 5), (0, 5), (0, 5), (0, 5), (0, 5), (0, 5), (0, 5), (0, 20), (0, 20), (12, 5), (15, 7), (0, 20), (0, 20), (0, 20), (0, 20), (0, 20), (0, 20), (3, 2), (16, 9), (0, 50), (0, 8), (0, 8), (19, 5), (1, 9), (1, 9), (1, 5), (16, 9), (0, 50), (0, 8), (0, 8), (19, 5), (1, 9), (1, 9), (1, 5), (14, 3), (15, 7), (0, 20), (0, 20), (0, 20), (0, 20), (0, 20), (0, 20), (13, 7), (0, 8), (0, 8), (1, 4096), (1, 4096), (18, 3), (0, 20), (0, 20), (10, 3), (0, 12), (0, 12), (6, 4), (17, 3), (0, 60), (17, 3), (0, 60), (17, 3), (0, 60), (17, 3), (0, 60), (21, 41), (0, 4), (0, 4), (0, 240), (0, 60), (0, 100), (0, 100), (0, 100), (0, 10), (0, 100), (0, 20), (0, 20), (2, 20), (0, 20), (0, 100), (0, 2), (0, 8), (0, 8), (0, 8), (0, 8), (0, 20), (0, 20), (0, 8)]) (upd2 (new0 (upd2 (new0 (upd2 (new0 (upd2 (new0 (upd2 (new0 (upd2 (new0 (upd2 (new0 (upd2 (new0 (upd2 (new0 (upd2 (new0 (upd2 (new0 (upd2 h 89 13 100) 101) 89 14 101) 102) 89 15 102) 103) 89 21 103) 104) 89 22 104) 105) 89 25 105) 106) 89 26 106) 107) 89 27 107) 108) 89 28 108) 109) 89 29 109) 110) 89 30 110) 111) 89 31 111) Q) : WG 0 47 88 [vr 89, vu] [vr 100, vr 89] (SH0 N ++ [(20, 11), (0, 10), (11, 10), (0, 100), (0, 100), (0, 100), (0, 100), (4, 20), (0, 5), (0, 5), (0, 5), (0, 5), (0, 5), (0, 5), (0, 5), (0, 5), (0, 5), (0, 5), (0, 5), (0, 5), (0, 5), (0, 5), (0, 5), (0, 5), (0, 5), (0, 5), (0, 5), (0, 5), (0, 20), (0, 20), (12, 5), (15, 7), (0, 20), (0, 20), (0, 20), (0, 20), (0, 20), (0, 20), (3, 2), (16, 9), (0, 50), (0, 8), (0, 8), (19, 5), (1, 9), (1, 9), (1, 5), (16, 9), (0, 50), (0, 8), (0, 8), (19, 5), (1, 9), (1, 9), (1, 5), (14, 3), (15, 7), (0, 20), (0, 20), (0, 20), (0, 20), (0, 20), (0, 20), (13, 7), (0, 8), (0, 8), (1, 4096), (1, 4096), (18, 3), (0, 20), (0, 20), (10, 3), (0, 12), (0, 12), (6, 4), (17, 3), (0, 60), (17, 3), (0, 60), (17, 3), (0, 60), (17, 3), (0, 60), (21, 41), (0, 4), (0, 4), (0, 240), (0, 60), (0, 100), (0, 100), (0, 100), (0, 10), (0, 100), (0, 20), (0, 20)]) h Q := by
  refine wg_step rfl rfl (And.intro rfl ?_)
  show WG _ 47 91 [vr 89, vu] [] _ _ _
  refine wg_step rfl rfl ?_
  show WG _ 47 92 [vr 89, vu] [vr 89] _ _ _
  refine wg_step rfl rfl ?_
  show WG _ 47 94 [vr 89, vu] [vi 20, vr 89] _ _ _
  refine wg_step rfl rfl (And.intro (And.intro (show (0 : Int) ≤ (20 : Int) by decide) (show (20 : Int) ≤ 10000 by decide)) ?_)
  show WG _ 47 96 [vr 89, vu] [vr 101, vr 89] _ _ _
  refine wg_step rfl rfl (And.intro rfl ?_)
  show WG _ 47 99 [vr 89, vu] [] _ _ _
  refine wg_step rfl rfl ?_
  show WG _ 47 100 [vr 89, vu] [vr 89] _ _ _
  refine wg_step rfl rfl ?_
  show WG _ 47 102 [vr 89, vu] [vi 20, vr 89] _ _ _
  refine wg_step rfl rfl (And.intro (And.intro (show (0 : Int) ≤ (20 : Int) by decide) (show (20 : Int) ≤ 10000 by decide)) ?_)
  show WG _ 47 104 [vr 89, vu] [vr 102, vr 89] _ _ _
  refine wg_step rfl rfl (And.intro rfl ?_)
  show WG _ 47 107 [vr 89, vu] [] _ _ _
  refine wg_step rfl rfl ?_
  show WG _ 47 108 [vr 89, vu] [vr 89] _ _ _
  refine wg_step rfl rfl ?_
  show WG _ 47 110 [vr 89, vu] [vi 100, vr 89] _ _ _
  refine wg_step rfl rfl (And.intro (And.intro (show (0 : Int) ≤ (100 : Int) by decide) (show (100 : Int) ≤ 10000 by decide)) ?_)
  show WG _ 47 112 [vr 89, vu] [vr 103, vr 89] _ _ _
  refine wg_step rfl rfl (And.intro rfl ?_)
  show WG _ 47 115 [vr 89, vu] [] _ _ _
  refine wg_step rfl rfl ?_
  show WG _ 47 116 [vr 89, vu] [vr 89] _ _ _
  refine wg_step rfl rfl ?_
  show WG _ 47 117 [vr 89, vu] [vi 2, vr 89] _ _ _
  refine wg_step rfl rfl (And.intro (And.intro (show (0 : Int) ≤ (2 : Int) by decide) (show (2 : Int) ≤ 10000 by decide)) ?_)
  show WG _ 47 119 [vr 89, vu] [vr 104, vr 89] _ _ _
  refine wg_step rfl rfl (And.intro rfl ?_)
  show WG _ 47 122 [vr 89, vu] [] _ _ _
  refine wg_step rfl rfl ?_
  show WG _ 47 123 [vr 89, vu] [vr 89] _ _ _
  refine wg_step rfl rfl ?_
  show WG _ 47 125 [vr 89, vu] [vi 8, vr 89] _ _ _
  refine wg_step rfl rfl (And.intro (And.intro (show (0 : Int) ≤ (8 : Int) by decide) (show (8 : Int) ≤ 10000 by decide)) ?_)
  show WG _ 47 127 [vr 89, vu] [vr 105, vr 89] _ _ _
  refine wg_step rfl rfl (And.intro rfl ?_)
  show WG _ 47 130 [vr 89, vu] [] _ _ _
  refine wg_step rfl rfl ?_
  show WG _ 47 131 [vr 89, vu] [vr 89] _ _ _
  refine wg_step rfl rfl ?_
  show WG _ 47 133 [vr 89, vu] [vi 8, vr 89] _ _ _
  refine wg_step rfl rfl (And.intro (And.intro (show (0 : Int) ≤ (8 : Int) by decide) (show (8 : Int) ≤ 10000 by decide)) ?_)
  show WG _ 47 135 [vr 89, vu] [vr 106, vr 89] _ _ _
  refine wg_step rfl rfl (And.intro rfl ?_)
  show WG _ 47 138 [vr 89, vu] [] _ _ _
  refine wg_step rfl rfl ?_
  show WG _ 47 139 [vr 89, vu] [vr 89] _ _ _
  refine wg_step rfl rfl ?_
  show WG _ 47 141 [vr 89, vu] [vi 8, vr 89] _ _ _
  refine wg_step rfl rfl (And.intro (And.intro (show (0 : Int) ≤ (8 : Int) by decide) (show (8 : Int) ≤ 10000 by decide)) ?_)
  show WG _ 47 143 [vr 89, vu] [vr 107, vr 89] _ _ _
  refine wg_step rfl rfl (And.intro rfl ?_)
  show WG _ 47 146 [vr 89, vu] [] _ _ _
  refine wg_step rfl rfl ?_
  show WG _ 47 147 [vr 89, vu] [vr 89] _ _ _
  refine wg_step rfl rfl ?_
  show WG _ 47 149 [vr 89, vu] [vi 8, vr 89] _ _ _
  refine wg_step rfl rfl (And.intro (And.intro (show (0 : Int) ≤ (8 : Int) by decide) (show (8 : Int) ≤ 10000 by decide)) ?_)
  show WG _ 47 151 [vr 89, vu] [vr 108, vr 89] _ _ _
  refine wg_step rfl rfl (And.intro rfl ?_)
  show WG _ 47 154 [vr 89, vu] [] _ _ _
  refine wg_step rfl rfl ?_
  show WG _ 47 155 [vr 89, vu] [vr 89] _ _ _
  refine wg_step rfl rfl ?_
  show WG _ 47 157 [vr 89, vu] [vi 20, vr 89] _ _ _
  refine wg_step rfl rfl (And.intro (And.intro (show (0 : Int) ≤ (20 : Int) by decide) (show (20 : Int) ≤ 10000 by decide)) ?_)
  show WG _ 47 159 [vr 89, vu] [vr 109, vr 89] _ _ _
  refine wg_step rfl rfl (And.intro rfl ?_)
  show WG _ 47 162 [vr 89, vu] [] _ _ _
  refine wg_step rfl rfl ?_
  show WG _ 47 163 [vr 89, vu] [vr 89] _ _ _
  refine wg_step rfl rfl ?_
  show WG _ 47 165 [vr 89, vu] [vi 20, vr 89] _ _ _
  refine wg_step rfl rfl (And.intro (And.intro (show (0 : Int) ≤ (20 : Int) by decide) (show (20 : Int) ≤ 10000 by decide)) ?_)
  show WG _ 47 167 [vr 89, vu] [vr 110, vr 89] _ _ _
  refine wg_step rfl rfl (And.intro rfl ?_)
  show WG _ 47 170 [vr 89, vu] [] _ _ _
  refine wg_step rfl rfl ?_
  show WG _ 47 171 [vr 89, vu] [vr 89] _ _ _
  refine wg_step rfl rfl ?_
  show WG _ 47 173 [vr 89, vu] [vi 8, vr 89] _ _ _
  refine wg_step rfl rfl (And.intro (And.intro (show (0 : Int) ≤ (8 : Int) by decide) (show (8 : Int) ≤ 10000 by decide)) ?_)
  show WG _ 47 175 [vr 89, vu] [vr 111, vr 89] _ _ _
  refine wg_step rfl rfl (And.intro rfl ?_)
  show WG _ 47 178 [vr 89, vu] [] _ _ _
  exact HH
theorem con_62 {N : Nat} {h : HP} {Q : aQ} (e0 : h 89 0 = 90) (HH : WG 0 47 247 [vr 89, vi 1] [vi 1] (SH0 N ++ [(20, 11), (0, 10), (11, 10), (0, 100), (0, 100), (0, 100), (0, 100), (4, 20), (0, 5), (0, 5), (0, 5), (0, 5), (0, 5), (0, 5), (0, 5), (0, 5), (0, 5), (0, 5), (0, 5), (0, 5), (0, 5), (0, 5), (0, 5), (0, 5), (0, 5), (0, 5), (0, 5), (0, 5), (0, 20), (0, 20), (12, 5), (15, 7), (0, 20), (0, 20), (0, 20), (0, 20), (0, 20), (0, 20), (3, 2), (16, 9), (0, 50), (0, 8), (0, 8), (19, 5), (1, 9), (1, 9), (1, 5), (16, 9), (0, 50), (0, 8), (0, 8), (19, 5), (1, 9), (1, 9), (1, 5), (14, 3), (15, 7), (0, 20), (0, 20), (0, 20), (0, 20), (0, 20), (0, 20), (13, 7), (0, 8), (0, 8), (1, 4096), (1, 4096), (18, 3), (0, 20), (0, 20), (10, 3), (0, 12), (0, 12), (6, 4), (17, 3), (0, 60), (17, 3), (0, 60), (17, 3), (0, 60), (17, 3), (0, 60), (21, 41), (0, 4), (0, 4), (0, 240), (0, 60), (0, 100), (0, 100), (0, 100), (0, 10), (0, 100), (0, 20), (0, 20), (2, 20), (0, 20), (0, 100), (0, 2), (0, 8), (0, 8), (0, 8), (0, 8), (0, 20), (0, 20), (0, 8), (0, 8), (1, 6561), (1, 6561), (1, 10), (1, 20), (1, 20), (0, 12), (0, 12)]) (upd2 (upd2 (new0 (upd2 (new0 (upd2 (new0 (upd2 (new0 (upd2 (new0 (upd2 (new0 (upd2 (new0 (upd2 (new0 h 112) 89 32 112) 113) 89 33 113) 114) 89 34 114) 115) 89 35 115) 116) 89 36 116) 117) 89 37 117) 118) 89 39 118) 119) 89 40 119) 90 0 (-1)) Q) : WG 0 47 178 [vr 89, vu] [] (SH0 N ++ [(20, 11), (0, 10), (11, 10), (0, 100), (0, 100), (0, 100), (0, 100), (4, 20), (0, 5), (0, 5), (0, 5), (0, 5), (0, 5), (0, 5), (0, 5), (0, 5), (0, 5), (0, 5), (0, 5), (0, 5), (0, 5), (0, 5), (0, 5), (0, 5), (0, 5), (0, 5), (0, 5), (0, 5), (0, 20), (0, 20), (12, 5), (15, 7), (0, 20), (0, 20), (0, 20), (0, 20), (0, 20), (0, 20), (3, 2), (16, 9), (0, 50), (0, 8), (0, 8), (19, 5), (1, 9), (1, 9), (1, 5), (16, 9), (0, 50), (0, 8), (0, 8), (19, 5), (1, 9), (1, 9), (1, 5), (14, 3), (15, 7), (0, 20), (0, 20), (0, 20), (0, 20), (0, 20), (0, 20), (13, 7), (0, 8), (0, 8), (1, 4096), (1, 4096), (18, 3), (0, 20), (0, 20), (10, 3), (0, 12), (0, 12), (6, 4), (17, 3), (0, 60), (17, 3), (0, 60), (17, 3), (0, 60), (17, 3), (0, 60), (21, 41), (0, 4), (0, 4), (0, 240), (0, 60), (0, 100), (0, 100), (0, 100), (0, 10), (0, 100), (0, 20), (0, 20), (2, 20), (0, 20), (0, 100), (0, 2), (0, 8), (0, 8), (0, 8), (0, 8), (0, 20), (0, 20), (0, 8)]) h Q := by
  refine wg_step rfl rfl ?_
  show WG _ 47 179 [vr 89, vu] [vr 89] _ _ _
  refine wg_step rfl rfl ?_
  show WG _ 47 181 [vr 89, vu] [vi 8, vr 89] _ _ _
  refine wg_step rfl rfl (And.intro (And.intro (show (0 : Int) ≤ (8 : Int) by decide) (show (8 : Int) ≤ 10000 by decide)) ?_)
  show WG _ 47 183 [vr 89, vu] [vr 112, vr 89] _ _ _
  refine wg_step rfl rfl (And.intro rfl ?_)
  show WG _ 47 186 [vr 89, vu] [] _ _ _
  refine wg_step rfl rfl ?_
  show WG _ 47 187 [vr 89, vu] [vr 89] _ _ _
  refine wg_step rfl rfl ?_
  show WG _ 47 190 [vr 89, vu] [vi 6561, vr 89] _ _ _
  refine wg_step rfl rfl (And.intro (And.intro (show (0 : Int) ≤ (6561 : Int) by decide) (show (6561 : Int) ≤ 10000 by decide)) ?_)
  show WG _ 47 192 [vr 89, vu] [vr 113, vr 89] _ _ _
  refine wg_step rfl rfl (And.intro rfl ?_)
  show WG _ 47 195 [vr 89, vu] [] _ _ _
  refine wg_step rfl rfl ?_
  show WG _ 47 196 [vr 89, vu] [vr 89] _ _ _
  refine wg_step rfl rfl ?_
  show WG _ 47 199 [vr 89, vu] [vi 6561, vr 89] _ _ _
  refine wg_step rfl rfl (And.intro (And.intro (show (0 : Int) ≤ (6561 : Int) by decide) (show (6561 : Int) ≤ 10000 by decide)) ?_)
  show WG _ 47 201 [vr 89, vu] [vr 114, vr 89] _ _ _
  refine wg_step rfl rfl (And.intro rfl ?_)
  show WG _ 47 204 [vr 89, vu] [] _ _ _
  refine wg_step rfl rfl ?_
  show WG _ 47 205 [vr 89, vu] [vr 89] _ _ _
  refine wg_step rfl rfl ?_
  show WG _ 47 207 [vr 89, vu] [vi 10, vr 89] _ _ _
  refine wg_step rfl rfl (And.intro (And.intro (show (0 : Int) ≤ (10 : Int) by decide) (show (10 : Int) ≤ 10000 by decide)) ?_)
  show WG _ 47 209 [vr 89, vu] [vr 115, vr 89] _ _ _
  refine wg_step rfl rfl (And.intro rfl ?_)
  show WG _ 47 212 [vr 89, vu] [] _ _ _
  refine wg_step rfl rfl ?_
  show WG _ 47 213 [vr 89, vu] [vr 89] _ _ _
  refine wg_step rfl rfl ?_
  show WG _ 47 215 [vr 89, vu] [vi 20, vr 89] _ _ _
  refine wg_step rfl rfl (And.intro (And.intro (show (0 : Int) ≤ (20 : Int) by decide) (show (20 : Int) ≤ 10000 by decide)) ?_)
  show WG _ 47 217 [vr 89, vu] [vr 116, vr 89] _ _ _
  refine wg_step rfl rfl (And.intro rfl ?_)
  show WG _ 47 220 [vr 89, vu] [] _ _ _
  refine wg_step rfl rfl ?_
  show WG _ 47 221 [vr 89, vu] [vr 89] _ _ _
  refine wg_step rfl rfl ?_
  show WG _ 47 223 [vr 89, vu] [vi 20, vr 89] _ _ _
  refine wg_step rfl rfl (And.intro (And.intro (show (0 : Int) ≤ (20 : Int) by decide) (show (20 : Int) ≤ 10000 by decide)) ?_)
  show WG _ 47 225 [vr 89, vu] [vr 117, vr 89] _ _ _
  refine wg_step rfl rfl (And.intro rfl ?_)
  show WG _ 47 228 [vr 89, vu] [] _ _ _
  refine wg_step rfl rfl ?_
  show WG _ 47 229 [vr 89, vu] [vr 89] _ _ _
  refine wg_step rfl rfl ?_
  show WG _ 47 231 [vr 89, vu] [vi 12, vr 89] _ _ _
  refine wg_step rfl rfl (And.intro (And.intro (show (0 : Int) ≤ (12 : Int) by decide) (show (12 : Int) ≤ 10000 by decide)) ?_)
  show WG _ 47 233 [vr 89, vu] [vr 118, vr 89] _ _ _
  refine wg_step rfl rfl (And.intro rfl ?_)
  show WG _ 47 236 [vr 89, vu] [] _ _ _
  refine wg_step rfl rfl ?_
  show WG _ 47 237 [vr 89, vu] [vr 89] _ _ _
  refine wg_step rfl rfl ?_
  show WG _ 47 239 [vr 89, vu] [vi 12, vr 89] _ _ _
  refine wg_step rfl rfl (And.intro (And.intro (show (0 : Int) ≤ (12 : Int) by decide) (show (12 : Int) ≤ 10000 by decide)) ?_)
  show WG _ 47 241 [vr 89, vu] [vr 119, vr 89] _ _ _
  refine wg_step rfl rfl (And.intro rfl ?_)
  show WG _ 47 244 [vr 89, vu] [] _ _ _
  refine wg_step rfl rfl ?_
  show WG _ 47 245 [vr 89, vu] [vi 0] _ _ _
  refine wg_step rfl rfl (And.intro ((Nat.le_of_ble_eq_true rfl) : 1 < 2) ?_)
  show WG _ 47 246 [vr 89, vi 0] [] _ _ _
  refine wg_step rfl rfl ?_
  show WG _ 47 247 [vr 89, vi 0] [vi 0] _ _ _
  refine wg_step rfl rfl ?_
  show WG _ 47 248 [vr 89, vi 0] [vi 4, vi 0] _ _ _
  refine wg_step rfl rfl (And.intro (fun q => absurd (show (0 : Int) ≥ (4 : Int) from q) (by decide)) (fun _ => ?_))
  show WG _ 47 251 [vr 89, vi 0] [] _ _ _
  refine wg_step rfl rfl ?_
  show WG _ 47 252 [vr 89, vi 0] [vr 89] _ _ _
  refine wg_getR (r := 90) rfl rfl (show ((upd2 (new0 (upd2 (new0 (upd2 (new0 (upd2 (new0 (upd2 (new0 (upd2 (new0 (upd2 (new0 (upd2 (new0 h 112) 89 32 112) 113) 89 33 113) 114) 89 34 114) 115) 89 35 115) 116) 89 36 116) 117) 89 37 117) 118) 89 39 118) 119) 89 40 119)) 89 ((0 : Nat) : Int) = ((90 : Nat) : Int) from e0) ?_
  show WG _ 47 255 [vr 89, vi 0] [vr 90] _ _ _
  refine wg_step rfl rfl ?_
  show WG _ 47 256 [vr 89, vi 0] [vi 0, vr 90] _ _ _
  refine wg_step rfl rfl ?_
  show WG _ 47 257 [vr 89, vi 0] [vi (-1), vi 0, vr 90] _ _ _
  refine wg_step rfl rfl (And.intro (And.intro rfl (And.intro (show (0 : Int) ≤ (0 : Int) by decide) (show (0 : Int) < ((4 : Nat) : Int) by decide))) ?_)
  show WG _ 47 258 [vr 89, vi 0] [] _ _ _
  refine wg_step rfl rfl ?_
  show WG _ 47 261 [vr 89, vi 1] [] _ _ _
  refine wg_step rfl rfl ?_
  show WG _ 47 246 [vr 89, vi 1] [] _ _ _
  refine wg_step rfl rfl ?_
  show WG _ 47 247 [vr 89, vi 1] [vi 1] _ _ _
  exact HH
theorem con_63 {N : Nat} {h : HP} {Q : aQ} (e0 : h 89 0 = 90) (e1 : h 89 10 = 97) (HH : WG 0 47 285 [vr 89, vi 4] [vi 3, vr 97] (SH0 N ++ [(20, 11), (0, 10), (11, 10), (0, 100), (0, 100), (0, 100), (0, 100), (4, 20), (0, 5), (0, 5), (0, 5), (0, 5), (0, 5), (0, 5), (0, 5), (0, 5), (0, 5), (0, 5), (0, 5), (0, 5), (0, 5), (0, 5), (0, 5), (0, 5), (0, 5), (0, 5), (0, 5), (0, 5), (0, 20), (0, 20), (12, 5), (15, 7), (0, 20), (0, 20), (0, 20), (0, 20), (0, 20), (0, 20), (3, 2), (16, 9), (0, 50), (0, 8), (0, 8), (19, 5), (1, 9), (1, 9), (1, 5), (16, 9), (0, 50), (0, 8), (0, 8), (19, 5), (1, 9), (1, 9), (1, 5), (14, 3), (15, 7), (0, 20), (0, 20), (0, 20), (0, 20), (0, 20), (0, 20), (13, 7), (0, 8), (0, 8), (1, 4096), (1, 4096), (18, 3), (0, 20), (0, 20), (10, 3), (0, 12), (0, 12), (6, 4), (17, 3), (0, 60), (17, 3), (0, 60), (17, 3), (0, 60), (17, 3), (0, 60), (21, 41), (0, 4), (0, 4), (0, 240), (0, 60), (0, 100), (0, 100), (0, 100), (0, 10), (0, 100), (0, 20), (0, 20), (2, 20), (0, 20), (0, 100), (0, 2), (0, 8), (0, 8), (0, 8), (0, 8), (0, 20), (0, 20), (0, 8), (0, 8), (1, 6561), (1, 6561), (1, 10), (1, 20), (1, 20), (0, 12), (0, 12)]) (upd2 (upd2 (upd2 (upd2 (upd2 h 90 1 (-1)) 90 2 (-1)) 90 3 (-1)) 97 1 19) 97 2 58) Q) : WG 0 47 247 [vr 89, vi 1] [vi 1] (SH0 N ++ [(20, 11), (0, 10), (11, 10), (0, 100), (0, 100), (0, 100), (0, 100), (4, 20), (0, 5), (0, 5), (0, 5), (0, 5), (0, 5), (0, 5), (0, 5), (0, 5), (0, 5), (0, 5), (0, 5), (0, 5), (0, 5), (0, 5), (0, 5), (0, 5), (0, 5), (0, 5), (0, 5), (0, 5), (0, 20), (0, 20), (12, 5), (15, 7), (0, 20), (0, 20), (0, 20), (0, 20), (0, 20), (0, 20), (3, 2), (16, 9), (0, 50), (0, 8), (0, 8), (19, 5), (1, 9), (1, 9), (1, 5), (16, 9), (0, 50), (0, 8), (0, 8), (19, 5), (1, 9), (1, 9), (1, 5), (14, 3), (15, 7), (0, 20), (0, 20), (0, 20), (0, 20), (0, 20), (0, 20), (13, 7), (0, 8), (0, 8), (1, 4096), (1, 4096), (18, 3), (0, 20), (0, 20), (10, 3), (0, 12), (0, 12), (6, 4), (17, 3), (0, 60), (17, 3), (0, 60), (17, 3), (0, 60), (17, 3), (0, 60), (21, 41), (0, 4), (0, 4), (0, 240), (0, 60), (0, 100), (0, 100), (0, 100), (0, 10), (0, 100), (0, 20), (0, 20), (2, 20), (0, 20), (0, 100), (0, 2), (0, 8), (0, 8), (0, 8), (0, 8), (0, 20), (0, 20), (0, 8), (0, 8), (1, 6561), (1, 6561), (1, 10), (1, 20), (1, 20), (0, 12), (0, 12)]) h Q := by
  refine wg_step rfl rfl ?_
  show WG _ 47 248 [vr 89, vi 1] [vi 4, vi 1] _ _ _
  refine wg_step rfl rfl (And.intro (fun q => absurd (show (1 : Int) ≥ (4 : Int) from q) (by decide)) (fun _ => ?_))
  show WG _ 47 251 [vr 89, vi 1] [] _ _ _
  refine wg_step rfl rfl ?_
  show WG _ 47 252 [vr 89, vi 1] [vr 89] _ _ _
  refine wg_getR (r := 90) rfl rfl (show (h) 89 ((0 : Nat) : Int) = ((90 : Nat) : Int) from e0) ?_
  show WG _ 47 255 [vr 89, vi 1] [vr 90] _ _ _
  refine wg_step rfl rfl ?_
  show WG _ 47 256 [vr 89, vi 1] [vi 1, vr 90] _ _ _
  refine wg_step rfl rfl ?_
  show WG _ 47 257 [vr 89, vi 1] [vi (-1), vi 1, vr 90] _ _ _
  refine wg_step rfl rfl (And.intro (And.intro rfl (And.intro (show (0 : Int) ≤ (1 : Int) by decide) (show (1 : Int) < ((4 : Nat) : Int) by decide))) ?_)
  show WG _ 47 258 [vr 89, vi 1] [] _ _ _
  refine wg_step rfl rfl ?_
  show WG _ 47 261 [vr 89, vi 2] [] _ _ _
  refine wg_step rfl rfl ?_
  show WG _ 47 246 [vr 89, vi 2] [] _ _ _
  refine wg_step rfl rfl ?_
  show WG _ 47 247 [vr 89, vi 2] [vi 2] _ _ _
  refine wg_step rfl rfl ?_
  show WG _ 47 248 [vr 89, vi 2] [vi 4, vi 2] _ _ _
  refine wg_step rfl rfl (And.intro (fun q => absurd (show (2 : Int) ≥ (4 : Int) from q) (by decide)) (fun _ => ?_))
  show WG _ 47 251 [vr 89, vi 2] [] _ _ _
  refine wg_step rfl rfl ?_
  show WG _ 47 252 [vr 89, vi 2] [vr 89] _ _ _
  refine wg_getR (r := 90) rfl rfl (show ((upd2 h 90 1 (-1))) 89 ((0 : Nat) : Int) = ((90 : Nat) : Int) from e0) ?_
  show WG _ 47 255 [vr 89, vi 2] [vr 90] _ _ _
  refine wg_step rfl rfl ?_
  show WG _ 47 256 [vr 89, vi 2] [vi 2, vr 90] _ _ _
  refine wg_step rfl rfl ?_
  show WG _ 47 257 [vr 89, vi 2] [vi (-1), vi 2, vr 90] _ _ _
  refine wg_step rfl rfl (And.intro (And.intro rfl (And.intro (show (0 : Int) ≤ (2 : Int) by decide) (show (2 : Int) < ((4 : Nat) : Int) by decide))) ?_)
  show WG _ 47 258 [vr 89, vi 2] [] _ _ _
  refine wg_step rfl rfl ?_
  show WG _ 47 261 [vr 89, vi 3] [] _ _ _
  refine wg_step rfl rfl ?_
  show WG _ 47 246 [vr 89, vi 3] [] _ _ _
  refine wg_step rfl rfl ?_
  show WG _ 47 247 [vr 89, vi 3] [vi 3] _ _ _
  refine wg_step rfl rfl ?_
  show WG _ 47 248 [vr 89, vi 3] [vi 4, vi 3] _ _ _
  refine wg_step rfl rfl (And.intro (fun q => absurd (show (3 : Int) ≥ (4 : Int) from q) (by decide)) (fun _ => ?_))
  show WG _ 47 251 [vr 89, vi 3] [] _ _ _
  refine wg_step rfl rfl ?_
  show WG _ 47 252 [vr 89, vi 3] [vr 89] _ _ _
  refine wg_getR (r := 90) rfl rfl (show ((upd2 (upd2 h 90 1 (-1)) 90 2 (-1))) 89 ((0 : Nat) : Int) = ((90 : Nat) : Int) from e0) ?_
  show WG _ 47 255 [vr 89, vi 3] [vr 90] _ _ _
  refine wg_step rfl rfl ?_
  show WG _ 47 256 [vr 89, vi 3] [vi 3, vr 90] _ _ _
  refine wg_step rfl rfl ?_
  show WG _ 47 257 [vr 89, vi 3] [vi (-1), vi 3, vr 90] _ _ _
  refine wg_step rfl rfl (And.intro (And.intro rfl (And.intro (show (0 : Int) ≤ (3 : Int) by decide) (show (3 : Int) < ((4 : Nat) : Int) by decide))) ?_)
  show WG _ 47 258 [vr 89, vi 3] [] _ _ _
  refine wg_step rfl rfl ?_
  show WG _ 47 261 [vr 89, vi 4] [] _ _ _
  refine wg_step rfl rfl ?_
  show WG _ 47 246 [vr 89, vi 4] [] _ _ _
  refine wg_step rfl rfl ?_
  show WG _ 47 247 [vr 89, vi 4] [vi 4] _ _ _
  refine wg_step rfl rfl ?_
  show WG _ 47 248 [vr 89, vi 4] [vi 4, vi 4] _ _ _
  refine wg_step rfl rfl (And.intro (fun _ => ?_) (fun q => absurd (show (4 : Int) ≥ (4 : Int) by decide) q))
  show WG _ 47 264 [vr 89, vi 4] [] _ _ _
  refine wg_step rfl rfl ?_
  show WG _ 47 265 [vr 89, vi 4] [vr 89] _ _ _
  refine wg_getR (r := 97) rfl rfl (show ((upd2 (upd2 (upd2 h 90 1 (-1)) 90 2 (-1)) 90 3 (-1))) 89 ((10 : Nat) : Int) = ((97 : Nat) : Int) from e1) ?_
  show WG _ 47 268 [vr 89, vi 4] [vr 97] _ _ _
  refine wg_step rfl rfl ?_
  show WG _ 47 269 [vr 89, vi 4] [vi 1, vr 97] _ _ _
  refine wg_step rfl rfl ?_
  show WG _ 47 271 [vr 89, vi 4] [vi 19, vi 1, vr 97] _ _ _
  refine wg_step rfl rfl (And.intro (And.intro rfl (And.intro (show (0 : Int) ≤ (1 : Int) by decide) (show (1 : Int) < ((10 : Nat) : Int) by decide))) ?_)
  show WG _ 47 272 [vr 89, vi 4] [] _ _ _
  refine wg_step rfl rfl ?_
  show WG _ 47 273 [vr 89, vi 4] [vr 89] _ _ _
  refine wg_getR (r := 97) rfl rfl (show ((upd2 (upd2 (upd2 (upd2 h 90 1 (-1)) 90 2 (-1)) 90 3 (-1)) 97 1 19)) 89 ((10 : Nat) : Int) = ((97 : Nat) : Int) from e1) ?_
  show WG _ 47 276 [vr 89, vi 4] [vr 97] _ _ _
  refine wg_step rfl rfl ?_
  show WG _ 47 277 [vr 89, vi 4] [vi 2, vr 97] _ _ _
  refine wg_step rfl rfl ?_
  show WG _ 47 279 [vr 89, vi 4] [vi 58, vi 2, vr 97] _ _ _
  refine wg_step rfl rfl (And.intro (And.intro rfl (And.intro (show (0 : Int) ≤ (2 : Int) by decide) (show (2 : Int) < ((10 : Nat) : Int) by decide))) ?_)
  show WG _ 47 280 [vr 89, vi 4] [] _ _ _
  refine wg_step rfl rfl ?_
  show WG _ 47 281 [vr 89, vi 4] [vr 89] _ _ _
  refine wg_getR (r := 97) rfl rfl (show ((upd2 (upd2 (upd2 (upd2 (upd2 h 90 1 (-1)) 90 2 (-1)) 90 3 (-1)) 97 1 19) 97 2 58)) 89 ((10 : Nat) : Int) = ((97 : Nat) : Int) from e1) ?_
  show WG _ 47 284 [vr 89, vi 4] [vr 97] _ _ _
  refine wg_step rfl rfl ?_
  show WG _ 47 285 [vr 89, vi 4] [vi 3, vr 97] _ _ _
  exact HH
theorem con_64 {N : Nat} {h : HP} {Q : aQ} (e0 : h 89 10 = 97) (e1 : h 89 31 = 111) (HH : WG 0 47 358 [vr 89, vi 4] [vi 3, vr 111] (SH0 N ++ [(20, 11), (0, 10), (11, 10), (0, 100), (0, 100), (0, 100), (0, 100), (4, 20), (0, 5), (0, 5), (0, 5), (0, 5), (0, 5), (0, 5), (0, 5), (0, 5), (0, 5), (0, 5), (0, 5), (0, 5), (0, 5), (0, 5), (0, 5), (0, 5), (0, 5), (0, 5), (0, 5), (0, 5), (0, 20), (0, 20), (12, 5), (15, 7), (0, 20), (0, 20), (0, 20), (0, 20), (0, 20), (0, 20), (3, 2), (16, 9), (0, 50), (0, 8), (0, 8), (19, 5), (1, 9), (1, 9), (1, 5), (16, 9), (0, 50), (0, 8), (0, 8), (19, 5), (1, 9), (1, 9), (1, 5), (14, 3), (15, 7), (0, 20), (0, 20), (0, 20), (0, 20), (0, 20), (0, 20), (13, 7), (0, 8), (0, 8), (1, 4096), (1, 4096), (18, 3), (0, 20), (0, 20), (10, 3), (0, 12), (0, 12), (6, 4), (17, 3), (0, 60), (17, 3), (0, 60), (17, 3), (0, 60), (17, 3), (0, 60), (21, 41), (0, 4), (0, 4), (0, 240), (0, 60), (0, 100), (0, 100), (0, 100), (0, 10), (0, 100), (0, 20), (0, 20), (2, 20), (0, 20), (0, 100), (0, 2), (0, 8), (0, 8), (0, 8), (0, 8), (0, 20), (0, 20), (0, 8), (0, 8), (1, 6561), (1, 6561), (1, 10), (1, 20), (1, 20), (0, 12), (0, 12)]) (upd2 (upd2 (upd2 (upd2 (upd2 (upd2 (upd2 (upd2 (upd2 h 97 3 999) 97 4 1) 97 5 9) 97 6 2) 97 7 2) 97 8 10) 97 9 10) 111 1 2) 111 2 9) Q) : WG 0 47 285 [vr 89, vi 4] [vi 3, vr 97] (SH0 N ++ [(20, 11), (0, 10), (11, 10), (0, 100), (0, 100), (0, 100), (0, 100), (4, 20), (0, 5), (0, 5), (0, 5), (0, 5), (0, 5), (0, 5), (0, 5), (0, 5), (0, 5), (0, 5), (0, 5), (0, 5), (0, 5), (0, 5), (0, 5), (0, 5), (0, 5), (0, 5), (0, 5), (0, 5), (0, 20), (0, 20), (12, 5), (15, 7), (0, 20), (0, 20), (0, 20), (0, 20), (0, 20), (0, 20), (3, 2), (16, 9), (0, 50), (0, 8), (0, 8), (19, 5), (1, 9), (1, 9), (1, 5), (16, 9), (0, 50), (0, 8), (0, 8), (19, 5), (1, 9), (1, 9), (1, 5), (14, 3), (15, 7), (0, 20), (0, 20), (0, 20), (0, 20), (0, 20), (0, 20), (13, 7), (0, 8), (0, 8), (1, 4096), (1, 4096), (18, 3), (0, 20), (0, 20), (10, 3), (0, 12), (0, 12), (6, 4), (17, 3), (0, 60), (17, 3), (0, 60), (17, 3), (0, 60), (17, 3), (0, 60), (21, 41), (0, 4), (0, 4), (0, 240), (0, 60), (0, 100), (0, 100), (0, 100), (0, 10), (0, 100), (0, 20), (0, 20), (2, 20), (0, 20), (0, 100), (0, 2), (0, 8), (0, 8), (0, 8), (0, 8), (0, 20), (0, 20), (0, 8), (0, 8), (1, 6561), (1, 6561), (1, 10), (1, 20), (1, 20), (0, 12), (0, 12)]) h Q := by
  refine wg_step rfl rfl ?_
  show WG _ 47 288 [vr 89, vi 4] [vi 999, vi 3, vr 97] _ _ _
  refine wg_step rfl rfl (And.intro (And.intro rfl (And.intro (show (0 : Int) ≤ (3 : Int) by decide) (show (3 : Int) < ((10 : Nat) : Int) by decide))) ?_)
  show WG _ 47 289 [vr 89, vi 4] [] _ _ _
  refine wg_step rfl rfl ?_
  show WG _ 47 290 [vr 89, vi 4] [vr 89] _ _ _
  refine wg_getR (r := 97) rfl rfl (show ((upd2 h 97 3 999)) 89 ((10 : Nat) : Int) = ((97 : Nat) : Int) from e0) ?_
  show WG _ 47 293 [vr 89, vi 4] [vr 97] _ _ _
  refine wg_step rfl rfl ?_
  show WG _ 47 294 [vr 89, vi 4] [vi 4, vr 97] _ _ _
  refine wg_step rfl rfl ?_
  show WG _ 47 295 [vr 89, vi 4] [vi 1, vi 4, vr 97] _ _ _
  refine wg_step rfl rfl (And.intro (And.intro rfl (And.intro (show (0 : Int) ≤ (4 : Int) by decide) (show (4 : Int) < ((10 : Nat) : Int) by decide))) ?_)
  show WG _ 47 296 [vr 89, vi 4] [] _ _ _
  refine wg_step rfl rfl ?_
  show WG _ 47 297 [vr 89, vi 4] [vr 89] _ _ _
  refine wg_getR (r := 97) rfl rfl (show ((upd2 (upd2 h 97 3 999) 97 4 1)) 89 ((10 : Nat) : Int) = ((97 : Nat) : Int) from e0) ?_
  show WG _ 47 300 [vr 89, vi 4] [vr 97] _ _ _
  refine wg_step rfl rfl ?_
  show WG _ 47 301 [vr 89, vi 4] [vi 5, vr 97] _ _ _
  refine wg_step rfl rfl ?_
  show WG _ 47 303 [vr 89, vi 4] [vi 9, vi 5, vr 97] _ _ _
  refine wg_step rfl rfl (And.intro (And.intro rfl (And.intro (show (0 : Int) ≤ (5 : Int) by decide) (show (5 : Int) < ((10 : Nat) : Int) by decide))) ?_)
  show WG _ 47 304 [vr 89, vi 4] [] _ _ _
  refine wg_step rfl rfl ?_
  show WG _ 47 305 [vr 89, vi 4] [vr 89] _ _ _
  refine wg_getR (r := 97) rfl rfl (show ((upd2 (upd2 (upd2 h 97 3 999) 97 4 1) 97 5 9)) 89 ((10 : Nat) : Int) = ((97 : Nat) : Int) from e0) ?_
  show WG _ 47 308 [vr 89, vi 4] [vr 97] _ _ _
  refine wg_step rfl rfl ?_
  show WG _ 47 310 [vr 89, vi 4] [vi 6, vr 97] _ _ _
  refine wg_step rfl rfl ?_
  show WG _ 47 311 [vr 89, vi 4] [vi 2, vi 6, vr 97] _ _ _
  refine wg_step rfl rfl (And.intro (And.intro rfl (And.intro (show (0 : Int) ≤ (6 : Int) by decide) (show (6 : Int) < ((10 : Nat) : Int) by decide))) ?_)
  show WG _ 47 312 [vr 89, vi 4] [] _ _ _
  refine wg_step rfl rfl ?_
  show WG _ 47 313 [vr 89, vi 4] [vr 89] _ _ _
  refine wg_getR (r := 97) rfl rfl (show ((upd2 (upd2 (upd2 (upd2 h 97 3 999) 97 4 1) 97 5 9) 97 6 2)) 89 ((10 : Nat) : Int) = ((97 : Nat) : Int) from e0) ?_
  show WG _ 47 316 [vr 89, vi 4] [vr 97] _ _ _
  refine wg_step rfl rfl ?_
  show WG _ 47 318 [vr 89, vi 4] [vi 7, vr 97] _ _ _
  refine wg_step rfl rfl ?_
  show WG _ 47 319 [vr 89, vi 4] [vi 2, vi 7, vr 97] _ _ _
  refine wg_step rfl rfl (And.intro (And.intro rfl (And.intro (show (0 : Int) ≤ (7 : Int) by decide) (show (7 : Int) < ((10 : Nat) : Int) by decide))) ?_)
  show WG _ 47 320 [vr 89, vi 4] [] _ _ _
  refine wg_step rfl rfl ?_
  show WG _ 47 321 [vr 89, vi 4] [vr 89] _ _ _
  refine wg_getR (r := 97) rfl rfl (show ((upd2 (upd2 (upd2 (upd2 (upd2 h 97 3 999) 97 4 1) 97 5 9) 97 6 2) 97 7 2)) 89 ((10 : Nat) : Int) = ((97 : Nat) : Int) from e0) ?_
  show WG _ 47 324 [vr 89, vi 4] [vr 97] _ _ _
  refine wg_step rfl rfl ?_
  show WG _ 47 326 [vr 89, vi 4] [vi 8, vr 97] _ _ _
  refine wg_step rfl rfl ?_
  show WG _ 47 328 [vr 89, vi 4] [vi 10, vi 8, vr 97] _ _ _
  refine wg_step rfl rfl (And.intro (And.intro rfl (And.intro (show (0 : Int) ≤ (8 : Int) by decide) (show (8 : Int) < ((10 : Nat) : Int) by decide))) ?_)
  show WG _ 47 329 [vr 89, vi 4] [] _ _ _
  refine wg_step rfl rfl ?_
  show WG _ 47 330 [vr 89, vi 4] [vr 89] _ _ _
  refine wg_getR (r := 97) rfl rfl (show ((upd2 (upd2 (upd2 (upd2 (upd2 (upd2 h 97 3 999) 97 4 1) 97 5 9) 97 6 2) 97 7 2) 97 8 10)) 89 ((10 : Nat) : Int) = ((97 : Nat) : Int) from e0) ?_
  show WG _ 47 333 [vr 89, vi 4] [vr 97] _ _ _
  refine wg_step rfl rfl ?_
  show WG _ 47 335 [vr 89, vi 4] [vi 9, vr 97] _ _ _
  refine wg_step rfl rfl ?_
  show WG _ 47 337 [vr 89, vi 4] [vi 10, vi 9, vr 97] _ _ _
  refine wg_step rfl rfl (And.intro (And.intro rfl (And.intro (show (0 : Int) ≤ (9 : Int) by decide) (show (9 : Int) < ((10 : Nat) : Int) by decide))) ?_)
  show WG _ 47 338 [vr 89, vi 4] [] _ _ _
  refine wg_step rfl rfl ?_
  show WG _ 47 339 [vr 89, vi 4] [vr 89] _ _ _
  refine wg_getR (r := 111) rfl rfl (show ((upd2 (upd2 (upd2 (upd2 (upd2 (upd2 (upd2 h 97 3 999) 97 4 1) 97 5 9) 97 6 2) 97 7 2) 97 8 10) 97 9 10)) 89 ((31 : Nat) : Int) = ((111 : Nat) : Int) from e1) ?_
  show WG _ 47 342 [vr 89, vi 4] [vr 111] _ _ _
  refine wg_step rfl rfl ?_
  show WG _ 47 343 [vr 89, vi 4] [vi 1, vr 111] _ _ _
  refine wg_step rfl rfl ?_
  show WG _ 47 344 [vr 89, vi 4] [vi 2, vi 1, vr 111] _ _ _
  refine wg_step rfl rfl (And.intro (And.intro rfl (And.intro (show (0 : Int) ≤ (1 : Int) by decide) (show (1 : Int) < ((8 : Nat) : Int) by decide))) ?_)
  show WG _ 47 345 [vr 89, vi 4] [] _ _ _
  refine wg_step rfl rfl ?_
  show WG _ 47 346 [vr 89, vi 4] [vr 89] _ _ _
  refine wg_getR (r := 111) rfl rfl (show ((upd2 (upd2 (upd2 (upd2 (upd2 (upd2 (upd2 (upd2 h 97 3 999) 97 4 1) 97 5 9) 97 6 2) 97 7 2) 97 8 10) 97 9 10) 111 1 2)) 89 ((31 : Nat) : Int) = ((111 : Nat) : Int) from e1) ?_
  show WG _ 47 349 [vr 89, vi 4] [vr 111] _ _ _
  refine wg_step rfl rfl ?_
  show WG _ 47 350 [vr 89, vi 4] [vi 2, vr 111] _ _ _
  refine wg_step rfl rfl ?_
  show WG _ 47 352 [vr 89, vi 4] [vi 9, vi 2, vr 111] _ _ _
  refine wg_step rfl rfl (And.intro (And.intro rfl (And.intro (show (0 : Int) ≤ (2 : Int) by decide) (show (2 : Int) < ((8 : Nat) : Int) by decide))) ?_)
  show WG _ 47 353 [vr 89, vi 4] [] _ _ _
  refine wg_step rfl rfl ?_
  show WG _ 47 354 [vr 89, vi 4] [vr 89] _ _ _
  refine wg_getR (r := 111) rfl rfl (show ((upd2 (upd2 (upd2 (upd2 (upd2 (upd2 (upd2 (upd2 (upd2 h 97 3 999) 97 4 1) 97 5 9) 97 6 2) 97 7 2) 97 8 10) 97 9 10) 111 1 2) 111 2 9)) 89 ((31 : Nat) : Int) = ((111 : Nat) : Int) from e1) ?_
  show WG _ 47 357 [vr 89, vi 4] [vr 111] _ _ _
  refine wg_step rfl rfl ?_
  show WG _ 47 358 [vr 89, vi 4] [vi 3, vr 111] _ _ _
  exact HH
theorem con_65 {N : Nat} {h : HP} {Q : aQ} (e0 : h 89 31 = 111) (HH : Q none (SH0 N ++ [(20, 11), (0, 10), (11, 10), (0, 100), (0, 100), (0, 100), (0, 100), (4, 20), (0, 5), (0, 5), (0, 5), (0, 5), (0, 5), (0, 5), (0, 5), (0, 5), (0, 5), (0, 5), (0, 5), (0, 5), (0, 5), (0, 5), (0, 5), (0, 5), (0, 5), (0, 5), (0, 5), (0, 5), (0, 20), (0, 20), (12, 5), (15, 7), (0, 20), (0, 20), (0, 20), (0, 20), (0, 20), (0, 20), (3, 2), (16, 9), (0, 50), (0, 8), (0, 8), (19, 5), (1, 9), (1, 9), (1, 5), (16, 9), (0, 50), (0, 8), (0, 8), (19, 5), (1, 9), (1, 9), (1, 5), (14, 3), (15, 7), (0, 20), (0, 20), (0, 20), (0, 20), (0, 20), (0, 20), (13, 7), (0, 8), (0, 8), (1, 4096), (1, 4096), (18, 3), (0, 20), (0, 20), (10, 3), (0, 12), (0, 12), (6, 4), (17, 3), (0, 60), (17, 3), (0, 60), (17, 3), (0, 60), (17, 3), (0, 60), (21, 41), (0, 4), (0, 4), (0, 240), (0, 60), (0, 100), (0, 100), (0, 100), (0, 10), (0, 100), (0, 20), (0, 20), (2, 20), (0, 20), (0, 100), (0, 2), (0, 8), (0, 8), (0, 8), (0, 8), (0, 20), (0, 20), (0, 8), (0, 8), (1, 6561), (1, 6561), (1, 10), (1, 20), (1, 20), (0, 12), (0, 12)]) (upd2 (upd2 (upd2 (upd2 h 111 3 21) 111 4 21) 111 5 9) 111 6 2)) : WG 0 47 358 [vr 89, vi 4] [vi 3, vr 111] (SH0 N ++ [(20, 11), (0, 10), (11, 10), (0, 100), (0, 100), (0, 100), (0, 100), (4, 20), (0, 5), (0, 5), (0, 5), (0, 5), (0, 5), (0, 5), (0, 5), (0, 5), (0, 5), (0, 5), (0, 5), (0, 5), (0, 5), (0, 5), (0, 5), (0, 5), (0, 5), (0, 5), (0, 5), (0, 5), (0, 20), (0, 20), (12, 5), (15, 7), (0, 20), (0, 20), (0, 20), (0, 20), (0, 20), (0, 20), (3, 2), (16, 9), (0, 50), (0, 8), (0, 8), (19, 5), (1, 9), (1, 9), (1, 5), (16, 9), (0, 50), (0, 8), (0, 8), (19, 5), (1, 9), (1, 9), (1, 5), (14, 3), (15, 7), (0, 20), (0, 20), (0, 20), (0, 20), (0, 20), (0, 20), (13, 7), (0, 8), (0, 8), (1, 4096), (1, 4096), (18, 3), (0, 20), (0, 20), (10, 3), (0, 12), (0, 12), (6, 4), (17, 3), (0, 60), (17, 3), (0, 60), (17, 3), (0, 60), (17, 3), (0, 60), (21, 41), (0, 4), (0, 4), (0, 240), (0, 60), (0, 100), (0, 100), (0, 100), (0, 10), (0, 100), (0, 20), (0, 20), (2, 20), (0, 20), (0, 100), (0, 2), (0, 8), (0, 8), (0, 8), (0, 8), (0, 20), (0, 20), (0, 8), (0, 8), (1, 6561), (1, 6561), (1, 10), (1, 20), (1, 20), (0, 12), (0, 12)]) h Q := by
  refine wg_step rfl rfl ?_
  show WG _ 47 360 [vr 89, vi 4] [vi 21, vi 3, vr 111] _ _ _
  refine wg_step rfl rfl (And.intro (And.intro rfl (And.intro (show (0 : Int) ≤ (3 : Int) by decide) (show (3 : Int) < ((8 : Nat) : Int) by decide))) ?_)
  show WG _ 47 361 [vr 89, vi 4] [] _ _ _
  refine wg_step rfl rfl ?_
  show WG _ 47 362 [vr 89, vi 4] [vr 89] _ _ _
  refine wg_getR (r := 111) rfl rfl (show ((upd2 h 111 3 21)) 89 ((31 : Nat) : Int) = ((111 : Nat) : Int) from e0) ?_
  show WG _ 47 365 [vr 89, vi 4] [vr 111] _ _ _
  refine wg_step rfl rfl ?_
  show WG _ 47 366 [vr 89, vi 4] [vi 4, vr 111] _ _ _
  refine wg_step rfl rfl ?_
  show WG _ 47 368 [vr 89, vi 4] [vi 21, vi 4, vr 111] _ _ _
  refine wg_step rfl rfl (And.intro (And.intro rfl (And.intro (show (0 : Int) ≤ (4 : Int) by decide) (show (4 : Int) < ((8 : Nat) : Int) by decide))) ?_)
  show WG _ 47 369 [vr 89, vi 4] [] _ _ _
  refine wg_step rfl rfl ?_
  show WG _ 47 370 [vr 89, vi 4] [vr 89] _ _ _
  refine wg_getR (r := 111) rfl rfl (show ((upd2 (upd2 h 111 3 21) 111 4 21)) 89 ((31 : Nat) : Int) = ((111 : Nat) : Int) from e0) ?_
  show WG _ 47 373 [vr 89, vi 4] [vr 111] _ _ _
  refine wg_step rfl rfl ?_
  show WG _ 47 374 [vr 89, vi 4] [vi 5, vr 111] _ _ _
  refine wg_step rfl rfl ?_
  show WG _ 47 376 [vr 89, vi 4] [vi 9, vi 5, vr 111] _ _ _
  refine wg_step rfl rfl (And.intro (And.intro rfl (And.intro (show (0 : Int) ≤ (5 : Int) by decide) (show (5 : Int) < ((8 : Nat) : Int) by decide))) ?_)
  show WG _ 47 377 [vr 89, vi 4] [] _ _ _
  refine wg_step rfl rfl ?_
  show WG _ 47 378 [vr 89, vi 4] [vr 89] _ _ _
  refine wg_getR (r := 111) rfl rfl (show ((upd2 (upd2 (upd2 h 111 3 21) 111 4 21) 111 5 9)) 89 ((31 : Nat) : Int) = ((111 : Nat) : Int) from e0) ?_
  show WG _ 47 381 [vr 89, vi 4] [vr 111] _ _ _
  refine wg_step rfl rfl ?_
  show WG _ 47 383 [vr 89, vi 4] [vi 6, vr 111] _ _ _
  refine wg_step rfl rfl ?_
  show WG _ 47 384 [vr 89, vi 4] [vi 2, vi 6, vr 111] _ _ _
  refine wg_step rfl rfl (And.intro (And.intro rfl (And.intro (show (0 : Int) ≤ (6 : Int) by decide) (show (6 : Int) < ((8 : Nat) : Int) by decide))) ?_)
  show WG _ 47 385 [vr 89, vi 4] [] _ _ _
  exact wg_vret rfl rfl HH
theorem con_66 {N : Nat} {h : HP} {Q : aQ} (HH : Q none (SH0 N ++ [(20, 11), (0, 10), (11, 10), (0, 100), (0, 100), (0, 100), (0, 100), (4, 20), (0, 5), (0, 5), (0, 5), (0, 5), (0, 5), (0, 5), (0, 5), (0, 5), (0, 5), (0, 5), (0, 5), (0, 5), (0, 5), (0, 5), (0, 5), (0, 5), (0, 5), (0, 5), (0, 5), (0, 5), (0, 20), (0, 20), (12, 5), (15, 7), (0, 20), (0, 20), (0, 20), (0, 20), (0, 20), (0, 20), (3, 2), (16, 9), (0, 50), (0, 8), (0, 8), (19, 5), (1, 9), (1, 9), (1, 5), (16, 9), (0, 50), (0, 8), (0, 8), (19, 5), (1, 9), (1, 9), (1, 5), (14, 3), (15, 7), (0, 20), (0, 20), (0, 20), (0, 20), (0, 20), (0, 20), (13, 7), (0, 8), (0, 8), (1, 4096), (1, 4096), (18, 3), (0, 20), (0, 20), (10, 3), (0, 12), (0, 12), (6, 4), (17, 3), (0, 60), (17, 3), (0, 60), (17, 3), (0, 60), (17, 3), (0, 60), (21, 41), (0, 4), (0, 4), (0, 240), (0, 60), (0, 100), (0, 100), (0, 100), (0, 10), (0, 100), (0, 20), (0, 20), (2, 20), (0, 20), (0, 100), (0, 2), (0, 8), (0, 8), (0, 8), (0, 8), (0, 20), (0, 20), (0, 8), (0, 8), (1, 6561), (1, 6561), (1, 10), (1, 20), (1, 20), (0, 12), (0, 12)]) (upd2 (upd2 (upd2 (upd2 (upd2 (upd2 (upd2 (upd2 (upd2 (upd2 (upd2 (upd2 (upd2 (upd2 (upd2 (upd2 (upd2 (upd2 (upd2 (upd2 (new0 (upd2 (new0 (upd2 (new0 (upd2 (new0 (upd2 (new0 (upd2 (new0 (upd2 (new0 (upd2 (new0 (upd2 (new0 (upd2 (new0 (upd2 (new0 (upd2 (new0 (upd2 (new0 (upd2 (new0 (upd2 (new0 (upd2 (new0 (upd2 (new0 (upd2 (new0 (upd2 (new0 (upd2 (new0 (upd2 (new0 (upd2 (new0 (upd2 (new0 (upd2 (new0 (upd2 (new0 (upd2 (new0 (upd2 (new0 (upd2 (new0 (upd2 (new0 (upd2 (new0 h 90) 89 0 90) 91) 89 1 91) 92) 89 2 92) 93) 89 3 93) 94) 89 7 94) 95) 89 8 95) 96) 89 9 96) 97) 89 10 97) 98) 89 11 98) 99) 89 12 99) 100) 89 13 100) 101) 89 14 101) 102) 89 15 102) 103) 89 21 103) 104) 89 22 104) 105) 89 25 105) 106) 89 26 106) 107) 89 27 107) 108) 89 28 108) 109) 89 29 109) 110) 89 30 110) 111) 89 31 111) 112) 89 32 112) 113) 89 33 113) 114) 89 34 114) 115) 89 35 115) 116) 89 36 116) 117) 89 37 117) 118) 89 39 118) 119) 89 40 119) 90 0 (-1)) 90 1 (-1)) 90 2 (-1)) 90 3 (-1)) 97 1 19) 97 2 58) 97 3 999) 97 4 1) 97 5 9) 97 6 2) 97 7 2) 97 8 10) 97 9 10) 111 1 2) 111 2 9) 111 3 21) 111 4 21) 111 5 9) 111 6 2)) : WG 0 47 0 [vr 89, vu] [] (SH0 N ++ [(20, 11), (0, 10), (11, 10), (0, 100), (0, 100), (0, 100), (0, 100), (4, 20), (0, 5), (0, 5), (0, 5), (0, 5), (0, 5), (0, 5), (0, 5), (0, 5), (0, 5), (0, 5), (0, 5), (0, 5), (0, 5), (0, 5), (0, 5), (0, 5), (0, 5), (0, 5), (0, 5), (0, 5), (0, 20), (0, 20), (12, 5), (15, 7), (0, 20), (0, 20), (0, 20), (0, 20), (0, 20), (0, 20), (3, 2), (16, 9), (0, 50), (0, 8), (0, 8), (19, 5), (1, 9), (1, 9), (1, 5), (16, 9), (0, 50), (0, 8), (0, 8), (19, 5), (1, 9), (1, 9), (1, 5), (14, 3), (15, 7), (0, 20), (0, 20), (0, 20), (0, 20), (0, 20), (0, 20), (13, 7), (0, 8), (0, 8), (1, 4096), (1, 4096), (18, 3), (0, 20), (0, 20), (10, 3), (0, 12), (0, 12), (6, 4), (17, 3), (0, 60), (17, 3), (0, 60), (17, 3), (0, 60), (17, 3), (0, 60), (21, 41)]) h Q := by
  refine con_60  ?_
  refine con_61  ?_
  refine con_62 (show ((upd2 (new0 (upd2 (new0 (upd2 (new0 (upd2 (new0 (upd2 (new0 (upd2 (new0 (upd2 (new0 (upd2 (new0 (upd2 (new0 (upd2 (new0 (upd2 (new0 (upd2 (new0 (upd2 (new0 (upd2 (new0 (upd2 (new0 (upd2 (new0 (upd2 (new0 (upd2 (new0 (upd2 (new0 (upd2 (new0 (upd2 (new0 (upd2 (new0 h 90) 89 0 90) 91) 89 1 91) 92) 89 2 92) 93) 89 3 93) 94) 89 7 94) 95) 89 8 95) 96) 89 9 96) 97) 89 10 97) 98) 89 11 98) 99) 89 12 99) 100) 89 13 100) 101) 89 14 101) 102) 89 15 102) 103) 89 21 103) 104) 89 22 104) 105) 89 25 105) 106) 89 26 106) 107) 89 27 107) 108) 89 28 108) 109) 89 29 109) 110) 89 30 110) 111) 89 31 111)) 89 0 = 90 from rfl) ?_
  refine con_63 (show ((upd2 (upd2 (new0 (upd2 (new0 (upd2 (new0 (upd2 (new0 (upd2 (new0 (upd2 (new0 (upd2 (new0 (upd2 (new0 (upd2 (new0 (upd2 (new0 (upd2 (new0 (upd2 (new0 (upd2 (new0 (upd2 (new0 (upd2 (new0 (upd2 (new0 (upd2 (new0 (upd2 (new0 (upd2 (new0 (upd2 (new0 (upd2 (new0 (upd2 (new0 (upd2 (new0 (upd2 (new0 (upd2 (new0 (upd2 (new0 (upd2 (new0 (upd2 (new0 (upd2 (new0 (upd2 (new0 h 90) 89 0 90) 91) 89 1 91) 92) 89 2 92) 93) 89 3 93) 94) 89 7 94) 95) 89 8 95) 96) 89 9 96) 97) 89 10 97) 98) 89 11 98) 99) 89 12 99) 100) 89 13 100) 101) 89 14 101) 102) 89 15 102) 103) 89 21 103) 104) 89 22 104) 105) 89 25 105) 106) 89 26 106) 107) 89 27 107) 108) 89 28 108) 109) 89 29 109) 110) 89 30 110) 111) 89 31 111) 112) 89 32 112) 113) 89 33 113) 114) 89 34 114) 115) 89 35 115) 116) 89 36 116) 117) 89 37 117) 118) 89 39 118) 119) 89 40 119) 90 0 (-1))) 89 0 = 90 from rfl) (show ((upd2 (upd2 (new0 (upd2 (new0 (upd2 (new0 (upd2 (new0 (upd2 (new0 (upd2 (new0 (upd2 (new0 (upd2 (new0 (upd2 (new0 (upd2 (new0 (upd2 (new0 (upd2 (new0 (upd2 (new0 (upd2 (new0 (upd2 (new0 (upd2 (new0 (upd2 (new0 (upd2 (new0 (upd2 (new0 (upd2 (new0 (upd2 (new0 (upd2 (new0 (upd2 (new0 (upd2 (new0 (upd2 (new0 (upd2 (new0 (upd2 (new0 (upd2 (new0 (upd2 (new0 (upd2 (new0 h 90) 89 0 90) 91) 89 1 91) 92) 89 2 92) 93) 89 3 93) 94) 89 7 94) 95) 89 8 95) 96) 89 9 96) 97) 89 10 97) 98) 89 11 98) 99) 89 12 99) 100) 89 13 100) 101) 89 14 101) 102) 89 15 102) 103) 89 21 103) 104) 89 22 104) 105) 89 25 105) 106) 89 26 106) 107) 89 27 107) 108) 89 28 108) 109) 89 29 109) 110) 89 30 110) 111) 89 31 111) 112) 89 32 112) 113) 89 33 113) 114) 89 34 114) 115) 89 35 115) 116) 89 36 116) 117) 89 37 117) 118) 89 39 118) 119) 89 40 119) 90 0 (-1))) 89 10 = 97 from rfl) ?_
  refine con_64 (show ((upd2 (upd2 (upd2 (upd2 (upd2 (upd2 (upd2 (new0 (upd2 (new0 (upd2 (new0 (upd2 (new0 (upd2 (new0 (upd2 (new0 (upd2 (new0 (upd2 (new0 (upd2 (new0 (upd2 (new0 (upd2 (new0 (upd2 (new0 (upd2 (new0 (upd2 (new0 (upd2 (new0 (upd2 (new0 (upd2 (new0 (upd2 (new0 (upd2 (new0 (upd2 (new0 (upd2 (new0 (upd2 (new0 (upd2 (new0 (upd2 (new0 (upd2 (new0 (upd2 (new0 (upd2 (new0 (upd2 (new0 (upd2 (new0 (upd2 (new0 h 90) 89 0 90) 91) 89 1 91) 92) 89 2 92) 93) 89 3 93) 94) 89 7 94) 95) 89 8 95) 96) 89 9 96) 97) 89 10 97) 98) 89 11 98) 99) 89 12 99) 100) 89 13 100) 101) 89 14 101) 102) 89 15 102) 103) 89 21 103) 104) 89 22 104) 105) 89 25 105) 106) 89 26 106) 107) 89 27 107) 108) 89 28 108) 109) 89 29 109) 110) 89 30 110) 111) 89 31 111) 112) 89 32 112) 113) 89 33 113) 114) 89 34 114) 115) 89 35 115) 116) 89 36 116) 117) 89 37 117) 118) 89 39 118) 119) 89 40 119) 90 0 (-1)) 90 1 (-1)) 90 2 (-1)) 90 3 (-1)) 97 1 19) 97 2 58)) 89 10 = 97 from rfl) (show ((upd2 (upd2 (upd2 (upd2 (upd2 (upd2 (upd2 (new0 (upd2 (new0 (upd2 (new0 (upd2 (new0 (upd2 (new0 (upd2 (new0 (upd2 (new0 (upd2 (new0 (upd2 (new0 (upd2 (new0 (upd2 (new0 (upd2 (new0 (upd2 (new0 (upd2 (new0 (upd2 (new0 (upd2 (new0 (upd2 (new0 (upd2 (new0 (upd2 (new0 (upd2 (new0 (upd2 (new0 (upd2 (new0 (upd2 (new0 (upd2 (new0 (upd2 (new0 (upd2 (new0 (upd2 (new0 (upd2 (new0 (upd2 (new0 (upd2 (new0 h 90) 89 0 90) 91) 89 1 91) 92) 89 2 92) 93) 89 3 93) 94) 89 7 94) 95) 89 8 95) 96) 89 9 96) 97) 89 10 97) 98) 89 11 98) 99) 89 12 99) 100) 89 13 100) 101) 89 14 101) 102) 89 15 102) 103) 89 21 103) 104) 89 22 104) 105) 89 25 105) 106) 89 26 106) 107) 89 27 107) 108) 89 28 108) 109) 89 29 109) 110) 89 30 110) 111) 89 31 111) 112) 89 32 112) 113) 89 33 113) 114) 89 34 114) 115) 89 35 115) 116) 89 36 116) 117) 89 37 117) 118) 89 39 118) 119) 89 40 119) 90 0 (-1)) 90 1 (-1)) 90 2 (-1)) 90 3 (-1)) 97 1 19) 97 2 58)) 89 31 = 111 from rfl) ?_
  refine con_65 (show ((upd2 (upd2 (upd2 (upd2 (upd2 (upd2 (upd2 (upd2 (upd2 (upd2 (upd2 (upd2 (upd2 (upd2 (upd2 (upd2 (new0 (upd2 (new0 (upd2 (new0 (upd2 (new0 (upd2 (new0 (upd2 (new0 (upd2 (new0 (upd2 (new0 (upd2 (new0 (upd2 (new0 (upd2 (new0 (upd2 (new0 (upd2 (new0 (upd2 (new0 (upd2 (new0 (upd2 (new0 (upd2 (new0 (upd2 (new0 (upd2 (new0 (upd2 (new0 (upd2 (new0 (upd2 (new0 (upd2 (new0 (upd2 (new0 (upd2 (new0 (upd2 (new0 (upd2 (new0 (upd2 (new0 (upd2 (new0 (upd2 (new0 h 90) 89 0 90) 91) 89 1 91) 92) 89 2 92) 93) 89 3 93) 94) 89 7 94) 95) 89 8 95) 96) 89 9 96) 97) 89 10 97) 98) 89 11 98) 99) 89 12 99) 100) 89 13 100) 101) 89 14 101) 102) 89 15 102) 103) 89 21 103) 104) 89 22 104) 105) 89 25 105) 106) 89 26 106) 107) 89 27 107) 108) 89 28 108) 109) 89 29 109) 110) 89 30 110) 111) 89 31 111) 112) 89 32 112) 113) 89 33 113) 114) 89 34 114) 115) 89 35 115) 116) 89 36 116) 117) 89 37 117) 118) 89 39 118) 119) 89 40 119) 90 0 (-1)) 90 1 (-1)) 90 2 (-1)) 90 3 (-1)) 97 1 19) 97 2 58) 97 3 999) 97 4 1) 97 5 9) 97 6 2) 97 7 2) 97 8 10) 97 9 10) 111 1 2) 111 2 9)) 89 31 = 111 from rfl) ?_
  exact HH
theorem con_1 {N : Nat} {h : HP} {Q : aQ} (HH : WG 17 247 4 [vr 5, vu, vu, vu] [vr 6, vr 6] (SH0 N ++ [(20, 11)]) (new0 h 6) Q) : WG 17 247 0 [vr 5, vu, vu, vu] [] (SH0 N ++ []) h Q := by
  refine wg_step rfl rfl ?_
  show WG _ 247 3 [vr 5, vu, vu, vu] [vr 6] _ _ _
  refine wg_step rfl rfl ?_
  show WG _ 247 4 [vr 5, vu, vu, vu] [vr 6, vr 6] _ _ _
  exact HH
theorem con_2 {N : Nat} {h : HP} {Q : aQ} (HH : WG 17 247 7 [vr 5, vu, vu, vu] [vr 6] (SH0 N ++ [(20, 11), (0, 10), (11, 10), (0, 100), (0, 100), (0, 100), (0, 100), (4, 20), (0, 5), (0, 5), (0, 5), (0, 5), (0, 5), (0, 5), (0, 5), (0, 5), (0, 5), (0, 5), (0, 5), (0, 5), (0, 5), (0, 5), (0, 5), (0, 5), (0, 5), (0, 5), (0, 5), (0, 5), (0, 20), (0, 20), (12, 5), (15, 7), (0, 20), (0, 20), (0, 20), (0, 20), (0, 20), (0, 20), (3, 2), (16, 9), (0, 50), (0, 8), (0, 8), (19, 5), (1, 9), (1, 9), (1, 5), (16, 9), (0, 50), (0, 8), (0, 8), (19, 5), (1, 9), (1, 9), (1, 5), (14, 3), (15, 7), (0, 20), (0, 20), (0, 20), (0, 20), (0, 20), (0, 20), (13, 7), (0, 8), (0, 8), (1, 4096), (1, 4096), (18, 3), (0, 20), (0, 20), (10, 3), (0, 12), (0, 12), (6, 4), (17, 3), (0, 60), (17, 3), (0, 60), (17, 3), (0, 60), (17, 3), (0, 60)]) (upd2 (upd2 (upd2 (new0 (new0 (upd2 (upd2 (upd2 (new0 (new0 (upd2 (upd2 (upd2 (new0 (new0 (upd2 (upd2 (upd2 (new0 (new0 (upd2 (new0 (upd2 (upd2 (new0 (upd2 (new0 (new0 (upd2 (upd2 (new0 (upd2 (new0 (new0 (upd2 (upd2 (upd2 (new0 (upd2 (new0 (upd2 (new0 (upd2 (upd2 (upd2 (upd2 (upd2 (upd2 (upd2 (upd2 (upd2 (new0 (new0 (upd2 (upd2 (upd2 (upd2 (new0 (upd2 (new0 (upd2 (new0 (upd2 (new0 (upd2 (new0 (upd2 (new0 (new0 (new0 (upd2 (upd2 (upd2 (upd2 (upd2 (upd2 (new0 (upd2 (new0 (upd2 (new0 (new0 (upd2 (new0 (upd2 (new0 (upd2 (new0 (new0 (upd2 (upd2 (upd2 (upd2 (upd2 (upd2 (new0 (upd2 (new0 (upd2 (new0 (new0 (upd2 (new0 (upd2 (new0 (upd2 (new0 (new0 (upd2 (new0 (upd2 (upd2 (new0 (upd2 (new0 (upd2 (new0 (upd2 (new0 (upd2 (new0 (upd2 (new0 (new0 (upd2 (new0 (upd2 (upd2 (new0 (upd2 (new0 (upd2 (newM (upd2 (new0 (upd2 (new0 (upd2 (new0 (upd2 (new0 (new0 (upd2 (cloH (new0 h 7) 7 1) 6 0 7) 8) 9) 8 0 9) 10) 8 1 10) 11) 8 2 11) 12) 8 3 12) 13 20) 8 4 13) 34) 8 5 34) 35) 8 6 35) 6 1 8) 36) 6 2 36) 37) 38) 37 0 38) 39) 37 1 39) 40) 37 2 40) 41) 37 3 41) 42) 37 4 42) 43) 37 5 43) 6 3 37) 44) 6 4 44) 45) 46) 45 0 46) 47) 45 1 47) 48) 45 2 48) 49) 50) 49 0 50) 51) 49 1 51) 52) 49 2 52) 45 3 49) 45 6 (-1)) 45 7 99) 45 8 99) 44 0 45) 53) 54) 53 0 54) 55) 53 1 55) 56) 53 2 56) 57) 58) 57 0 58) 59) 57 1 59) 60) 57 2 60) 53 3 57) 53 6 (-1)) 53 7 99) 53 8 99) 44 1 53) 61) 62) 63) 62 0 63) 64) 62 1 64) 65) 62 2 65) 66) 62 3 66) 67) 62 4 67) 68) 62 5 68) 61 0 62) 61 1 37) 6 5 61) 69) 70) 70 0 0) 70 1 2) 70 2 9) 70 3 21) 70 4 21) 70 5 9) 70 6 2) 70 7 0) 69 0 70) 71) 69 1 71) 72) 69 2 72) 73) 69 3 73) 69 6 1) 6 6 69) 74) 75) 74 0 75) 76) 74 1 76) 6 7 74) 77) 78) 77 0 78) 79) 77 1 79) 6 8 77) 80) 6 9 80) 81) 82) 81 0 82) 81 1 (-1)) 80 0 81) 83) 84) 83 0 84) 83 1 (-1)) 80 1 83) 85) 86) 85 0 86) 85 1 (-1)) 80 2 85) 87) 88) 87 0 88) 87 1 (-1)) 80 3 87) Q) : WG 17 247 4 [vr 5, vu, vu, vu] [vr 6, vr 6] (SH0 N ++ [(20, 11)]) h Q := by
  refine wg_call (k := 0) rfl rfl (Nat.le_of_ble_eq_true rfl) (Nat.le_of_ble_eq_true rfl) (Nat.le_of_ble_eq_true rfl) (rcv_V rfl rfl) ?_
  show WG 2 0 0 [vr 6, vu] [] (SH0 N ++ [(20, 11)]) h _
  refine con_57  ?_
  show WG _ 247 7 [vr 5, vu, vu, vu] [vr 6] _ _ _
  exact HH
theorem con_58 {N : Nat} {h : HP} {Q : aQ} (HH : WG 17 247 12 [vr 5, vr 6, vu, vu] [vr 89, vr 89] (SH0 N ++ [(20, 11), (0, 10), (11, 10), (0, 100), (0, 100), (0, 100), (0, 100), (4, 20), (0, 5), (0, 5), (0, 5), (0, 5), (0, 5), (0, 5), (0, 5), (0, 5), (0, 5), (0, 5), (0, 5), (0, 5), (0, 5), (0, 5), (0, 5), (0, 5), (0, 5), (0, 5), (0, 5), (0, 5), (0, 20), (0, 20), (12, 5), (15, 7), (0, 20), (0, 20), (0, 20), (0, 20), (0, 20), (0, 20), (3, 2), (16, 9), (0, 50), (0, 8), (0, 8), (19, 5), (1, 9), (1, 9), (1, 5), (16, 9), (0, 50), (0, 8), (0, 8), (19, 5), (1, 9), (1, 9), (1, 5), (14, 3), (15, 7), (0, 20), (0, 20), (0, 20), (0, 20), (0, 20), (0, 20), (13, 7), (0, 8), (0, 8), (1, 4096), (1, 4096), (18, 3), (0, 20), (0, 20), (10, 3), (0, 12), (0, 12), (6, 4), (17, 3), (0, 60), (17, 3), (0, 60), (17, 3), (0, 60), (17, 3), (0, 60), (21, 41)]) (new0 h 89) Q) : WG 17 247 7 [vr 5, vu, vu, vu] [vr 6] (SH0 N ++ [(20, 11), (0, 10), (11, 10), (0, 100), (0, 100), (0, 100), (0, 100), (4, 20), (0, 5), (0, 5), (0, 5), (0, 5), (0, 5), (0, 5), (0, 5), (0, 5), (0, 5), (0, 5), (0, 5), (0, 5), (0, 5), (0, 5), (0, 5), (0, 5), (0, 5), (0, 5), (0, 5), (0, 5), (0, 20), (0, 20), (12, 5), (15, 7), (0, 20), (0, 20), (0, 20), (0, 20), (0, 20), (0, 20), (3, 2), (16, 9), (0, 50), (0, 8), (0, 8), (19, 5), (1, 9), (1, 9), (1, 5), (16, 9), (0, 50), (0, 8), (0, 8), (19, 5), (1, 9), (1, 9), (1, 5), (14, 3), (15, 7), (0, 20), (0, 20), (0, 20), (0, 20), (0, 20), (0, 20), (13, 7), (0, 8), (0, 8), (1, 4096), (1, 4096), (18, 3), (0, 20), (0, 20), (10, 3), (0, 12), (0, 12), (6, 4), (17, 3), (0, 60), (17, 3), (0, 60), (17, 3), (0, 60), (17, 3), (0, 60)]) h Q := by
  refine wg_step rfl rfl (And.intro ((Nat.le_of_ble_eq_true rfl) : 1 < 4) ?_)
  show WG _ 247 8 [vr 5, vr 6, vu, vu] [] _ _ _
  refine wg_step rfl rfl ?_
  show WG _ 247 11 [vr 5, vr 6, vu, vu] [vr 89] _ _ _
  refine wg_step rfl rfl ?_
  show WG _ 247 12 [vr 5, vr 6, vu, vu] [vr 89, vr 89] _ _ _
  exact HH
theorem con_59 {N : Nat} {h : HP} {Q : aQ} (HH : WG 17 247 15 [vr 5, vr 6, vu, vu] [vr 89] (SH0 N ++ [(20, 11), (0, 10), (11, 10), (0, 100), (0, 100), (0, 100), (0, 100), (4, 20), (0, 5), (0, 5), (0, 5), (0, 5), (0, 5), (0, 5), (0, 5), (0, 5), (0, 5), (0, 5), (0, 5), (0, 5), (0, 5), (0, 5), (0, 5), (0, 5), (0, 5), (0, 5), (0, 5), (0, 5), (0, 20), (0, 20), (12, 5), (15, 7), (0, 20), (0, 20), (0, 20), (0, 20), (0, 20), (0, 20), (3, 2), (16, 9), (0, 50), (0, 8), (0, 8), (19, 5), (1, 9), (1, 9), (1, 5), (16, 9), (0, 50), (0, 8), (0, 8), (19, 5), (1, 9), (1, 9), (1, 5), (14, 3), (15, 7), (0, 20), (0, 20), (0, 20), (0, 20), (0, 20), (0, 20), (13, 7), (0, 8), (0, 8), (1, 4096), (1, 4096), (18, 3), (0, 20), (0, 20), (10, 3), (0, 12), (0, 12), (6, 4), (17, 3), (0, 60), (17, 3), (0, 60), (17, 3), (0, 60), (17, 3), (0, 60), (21, 41), (0, 4), (0, 4), (0, 240), (0, 60), (0, 100), (0, 100), (0, 100), (0, 10), (0, 100), (0, 20), (0, 20), (2, 20), (0, 20), (0, 100), (0, 2), (0, 8), (0, 8), (0, 8), (0, 8), (0, 20), (0, 20), (0, 8), (0, 8), (1, 6561), (1, 6561), (1, 10), (1, 20), (1, 20), (0, 12), (0, 12)]) (upd2 (upd2 (upd2 (upd2 (upd2 (upd2 (upd2 (upd2 (upd2 (upd2 (upd2 (upd2 (upd2 (upd2 (upd2 (upd2 (upd2 (upd2 (upd2 (upd2 (new0 (upd2 (new0 (upd2 (new0 (upd2 (new0 (upd2 (new0 (upd2 (new0 (upd2 (new0 (upd2 (new0 (upd2 (new0 (upd2 (new0 (upd2 (new0 (upd2 (new0 (upd2 (new0 (upd2 (new0 (upd2 (new0 (upd2 (new0 (upd2 (new0 (upd2 (new0 (upd2 (new0 (upd2 (new0 (upd2 (new0 (upd2 (new0 (upd2 (new0 (upd2 (new0 (upd2 (new0 (upd2 (new0 (upd2 (new0 (upd2 (new0 (upd2 (new0 (upd2 (new0 h 90) 89 0 90) 91) 89 1 91) 92) 89 2 92) 93) 89 3 93) 94) 89 7 94) 95) 89 8 95) 96) 89 9 96) 97) 89 10 97) 98) 89 11 98) 99) 89 12 99) 100) 89 13 100) 101) 89 14 101) 102) 89 15 102) 103) 89 21 103) 104) 89 22 104) 105) 89 25 105) 106) 89 26 106) 107) 89 27 107) 108) 89 28 108) 109) 89 29 109) 110) 89 30 110) 111) 89 31 111) 112) 89 32 112) 113) 89 33 113) 114) 89 34 114) 115) 89 35 115) 116) 89 36 116) 117) 89 37 117) 118) 89 39 118) 119) 89 40 119) 90 0 (-1)) 90 1 (-1)) 90 2 (-1)) 90 3 (-1)) 97 1 19) 97 2 58) 97 3 999) 97 4 1) 97 5 9) 97 6 2) 97 7 2) 97 8 10) 97 9 10) 111 1 2) 111 2 9) 111 3 21) 111 4 21) 111 5 9) 111 6 2) Q) : WG 17 247 12 [vr 5, vr 6, vu, vu] [vr 89, vr 89] (SH0 N ++ [(20, 11), (0, 10), (11, 10), (0, 100), (0, 100), (0, 100), (0, 100), (4, 20), (0, 5), (0, 5), (0, 5), (0, 5), (0, 5), (0, 5), (0, 5), (0, 5), (0, 5), (0, 5), (0, 5), (0, 5), (0, 5), (0, 5), (0, 5), (0, 5), (0, 5), (0, 5), (0, 5), (0, 5), (0, 20), (0, 20), (12, 5), (15, 7), (0, 20), (0, 20), (0, 20), (0, 20), (0, 20), (0, 20), (3, 2), (16, 9), (0, 50), (0, 8), (0, 8), (19, 5), (1, 9), (1, 9), (1, 5), (16, 9), (0, 50), (0, 8), (0, 8), (19, 5), (1, 9), (1, 9), (1, 5), (14, 3), (15, 7), (0, 20), (0, 20), (0, 20), (0, 20), (0, 20), (0, 20), (13, 7), (0, 8), (0, 8), (1, 4096), (1, 4096), (18, 3), (0, 20), (0, 20), (10, 3), (0, 12), (0, 12), (6, 4), (17, 3), (0, 60), (17, 3), (0, 60), (17, 3), (0, 60), (17, 3), (0, 60), (21, 41)]) h Q := by
  refine wg_call (k := 47) rfl rfl (Nat.le_of_ble_eq_true rfl) (Nat.le_of_ble_eq_true rfl) (Nat.le_of_ble_eq_true rfl) (rcv_V rfl rfl) ?_
  show WG 0 47 0 [vr 89, vu] [] (SH0 N ++ [(20, 11), (0, 10), (11, 10), (0, 100), (0, 100), (0, 100), (0, 100), (4, 20), (0, 5), (0, 5), (0, 5), (0, 5), (0, 5), (0, 5), (0, 5), (0, 5), (0, 5), (0, 5), (0, 5), (0, 5), (0, 5), (0, 5), (0, 5), (0, 5), (0, 5), (0, 5), (0, 5), (0, 5), (0, 20), (0, 20), (12, 5), (15, 7), (0, 20), (0, 20), (0, 20), (0, 20), (0, 20), (0, 20), (3, 2), (16, 9), (0, 50), (0, 8), (0, 8), (19, 5), (1, 9), (1, 9), (1, 5), (16, 9), (0, 50), (0, 8), (0, 8), (19, 5), (1, 9), (1, 9), (1, 5), (14, 3), (15, 7), (0, 20), (0, 20), (0, 20), (0, 20), (0, 20), (0, 20), (13, 7), (0, 8), (0, 8), (1, 4096), (1, 4096), (18, 3), (0, 20), (0, 20), (10, 3), (0, 12), (0, 12), (6, 4), (17, 3), (0, 60), (17, 3), (0, 60), (17, 3), (0, 60), (17, 3), (0, 60), (21, 41)]) h _
  refine con_66  ?_
  show WG _ 247 15 [vr 5, vr 6, vu, vu] [vr 89] _ _ _
  exact HH
theorem con_67 {N : Nat} {h : HP} {Q : aQ} (HH : WG 17 247 18 [vr 5, vr 6, vr 89, vi 0] [] (SH0 N ++ [(20, 11), (0, 10), (11, 10), (0, 100), (0, 100), (0, 100), (0, 100), (4, 20), (0, 5), (0, 5), (0, 5), (0, 5), (0, 5), (0, 5), (0, 5), (0, 5), (0, 5), (0, 5), (0, 5), (0, 5), (0, 5), (0, 5), (0, 5), (0, 5), (0, 5), (0, 5), (0, 5), (0, 5), (0, 20), (0, 20), (12, 5), (15, 7), (0, 20), (0, 20), (0, 20), (0, 20), (0, 20), (0, 20), (3, 2), (16, 9), (0, 50), (0, 8), (0, 8), (19, 5), (1, 9), (1, 9), (1, 5), (16, 9), (0, 50), (0, 8), (0, 8), (19, 5), (1, 9), (1, 9), (1, 5), (14, 3), (15, 7), (0, 20), (0, 20), (0, 20), (0, 20), (0, 20), (0, 20), (13, 7), (0, 8), (0, 8), (1, 4096), (1, 4096), (18, 3), (0, 20), (0, 20), (10, 3), (0, 12), (0, 12), (6, 4), (17, 3), (0, 60), (17, 3), (0, 60), (17, 3), (0, 60), (17, 3), (0, 60), (21, 41), (0, 4), (0, 4), (0, 240), (0, 60), (0, 100), (0, 100), (0, 100), (0, 10), (0, 100), (0, 20), (0, 20), (2, 20), (0, 20), (0, 100), (0, 2), (0, 8), (0, 8), (0, 8), (0, 8), (0, 20), (0, 20), (0, 8), (0, 8), (1, 6561), (1, 6561), (1, 10), (1, 20), (1, 20), (0, 12), (0, 12)]) h Q) : WG 17 247 15 [vr 5, vr 6, vu, vu] [vr 89] (SH0 N ++ [(20, 11), (0, 10), (11, 10), (0, 100), (0, 100), (0, 100), (0, 100), (4, 20), (0, 5), (0, 5), (0, 5), (0, 5), (0, 5), (0, 5), (0, 5), (0, 5), (0, 5), (0, 5), (0, 5), (0, 5), (0, 5), (0, 5), (0, 5), (0, 5), (0, 5), (0, 5), (0, 5), (0, 5), (0, 20), (0, 20), (12, 5), (15, 7), (0, 20), (0, 20), (0, 20), (0, 20), (0, 20), (0, 20), (3, 2), (16, 9), (0, 50), (0, 8), (0, 8), (19, 5), (1, 9), (1, 9), (1, 5), (16, 9), (0, 50), (0, 8), (0, 8), (19, 5), (1, 9), (1, 9), (1, 5), (14, 3), (15, 7), (0, 20), (0, 20), (0, 20), (0, 20), (0, 20), (0, 20), (13, 7), (0, 8), (0, 8), (1, 4096), (1, 4096), (18, 3), (0, 20), (0, 20), (10, 3), (0, 12), (0, 12), (6, 4), (17, 3), (0, 60), (17, 3), (0, 60), (17, 3), (0, 60), (17, 3), (0, 60), (21, 41), (0, 4), (0, 4), (0, 240), (0, 60), (0, 100), (0, 100), (0, 100), (0, 10), (0, 100), (0, 20), (0, 20), (2, 20), (0, 20), (0, 100), (0, 2), (0, 8), (0, 8), (0, 8), (0, 8), (0, 20), (0, 20), (0, 8), (0, 8), (1, 6561), (1, 6561), (1, 10), (1, 20), (1, 20), (0, 12), (0, 12)]) h Q := by
  refine wg_step rfl rfl (And.intro ((Nat.le_of_ble_eq_true rfl) : 2 < 4) ?_)
  show WG _ 247 16 [vr 5, vr 6, vr 89, vu] [] _ _ _
  refine wg_step rfl rfl ?_
  show WG _ 247 17 [vr 5, vr 6, vr 89, vu] [vi 0] _ _ _
  refine wg_step rfl rfl (And.intro ((Nat.le_of_ble_eq_true rfl) : 3 < 4) ?_)
  show WG _ 247 18 [vr 5, vr 6, vr 89, vi 0] [] _ _ _
  exact HH
theorem con_68 {N : Nat} {h : HP} {Q : aQ} (HH : WG 17 247 18 [vr 5, vr 6, vr 89, vi 0] [] (SH0 N ++ [(20, 11), (0, 10), (11, 10), (0, 100), (0, 100), (0, 100), (0, 100), (4, 20), (0, 5), (0, 5), (0, 5), (0, 5), (0, 5), (0, 5), (0, 5), (0, 5), (0, 5), (0, 5), (0, 5), (0, 5), (0, 5), (0, 5), (0, 5), (0, 5), (0, 5), (0, 5), (0, 5), (0, 5), (0, 20), (0, 20), (12, 5), (15, 7), (0, 20), (0, 20), (0, 20), (0, 20), (0, 20), (0, 20), (3, 2), (16, 9), (0, 50), (0, 8), (0, 8), (19, 5), (1, 9), (1, 9), (1, 5), (16, 9), (0, 50), (0, 8), (0, 8), (19, 5), (1, 9), (1, 9), (1, 5), (14, 3), (15, 7), (0, 20), (0, 20), (0, 20), (0, 20), (0, 20), (0, 20), (13, 7), (0, 8), (0, 8), (1, 4096), (1, 4096), (18, 3), (0, 20), (0, 20), (10, 3), (0, 12), (0, 12), (6, 4), (17, 3), (0, 60), (17, 3), (0, 60), (17, 3), (0, 60), (17, 3), (0, 60), (21, 41), (0, 4), (0, 4), (0, 240), (0, 60), (0, 100), (0, 100), (0, 100), (0, 10), (0, 100), (0, 20), (0, 20), (2, 20), (0, 20), (0, 100), (0, 2), (0, 8), (0, 8), (0, 8), (0, 8), (0, 20), (0, 20), (0, 8), (0, 8), (1, 6561), (1, 6561), (1, 10), (1, 20), (1, 20), (0, 12), (0, 12)]) (upd2 (upd2 (upd2 (upd2 (upd2 (upd2 (upd2 (upd2 (upd2 (upd2 (upd2 (upd2 (upd2 (upd2 (upd2 (upd2 (upd2 (upd2 (upd2 (upd2 (new0 (upd2 (new0 (upd2 (new0 (upd2 (new0 (upd2 (new0 (upd2 (new0 (upd2 (new0 (upd2 (new0 (upd2 (new0 (upd2 (new0 (upd2 (new0 (upd2 (new0 (upd2 (new0 (upd2 (new0 (upd2 (new0 (upd2 (new0 (upd2 (new0 (upd2 (new0 (upd2 (new0 (upd2 (new0 (upd2 (new0 (upd2 (new0 (upd2 (new0 (upd2 (new0 (upd2 (new0 (upd2 (new0 (upd2 (new0 (upd2 (new0 (upd2 (new0 (upd2 (new0 (new0 (upd2 (upd2 (upd2 (new0 (new0 (upd2 (upd2 (upd2 (new0 (new0 (upd2 (upd2 (upd2 (new0 (new0 (upd2 (upd2 (upd2 (new0 (new0 (upd2 (new0 (upd2 (upd2 (new0 (upd2 (new0 (new0 (upd2 (upd2 (new0 (upd2 (new0 (new0 (upd2 (upd2 (upd2 (new0 (upd2 (new0 (upd2 (new0 (upd2 (upd2 (upd2 (upd2 (upd2 (upd2 (upd2 (upd2 (upd2 (new0 (new0 (upd2 (upd2 (upd2 (upd2 (new0 (upd2 (new0 (upd2 (new0 (upd2 (new0 (upd2 (new0 (upd2 (new0 (new0 (new0 (upd2 (upd2 (upd2 (upd2 (upd2 (upd2 (new0 (upd2 (new0 (upd2 (new0 (new0 (upd2 (new0 (upd2 (new0 (upd2 (new0 (new0 (upd2 (upd2 (upd2 (upd2 (upd2 (upd2 (new0 (upd2 (new0 (upd2 (new0 (new0 (upd2 (new0 (upd2 (new0 (upd2 (new0 (new0 (upd2 (new0 (upd2 (upd2 (new0 (upd2 (new0 (upd2 (new0 (upd2 (new0 (upd2 (new0 (upd2 (new0 (new0 (upd2 (new0 (upd2 (upd2 (new0 (upd2 (new0 (upd2 (newM (upd2 (new0 (upd2 (new0 (upd2 (new0 (upd2 (new0 (new0 (upd2 (cloH (new0 (new0 h 6) 7) 7 1) 6 0 7) 8) 9) 8 0 9) 10) 8 1 10) 11) 8 2 11) 12) 8 3 12) 13 20) 8 4 13) 34) 8 5 34) 35) 8 6 35) 6 1 8) 36) 6 2 36) 37) 38) 37 0 38) 39) 37 1 39) 40) 37 2 40) 41) 37 3 41) 42) 37 4 42) 43) 37 5 43) 6 3 37) 44) 6 4 44) 45) 46) 45 0 46) 47) 45 1 47) 48) 45 2 48) 49) 50) 49 0 50) 51) 49 1 51) 52) 49 2 52) 45 3 49) 45 6 (-1)) 45 7 99) 45 8 99) 44 0 45) 53) 54) 53 0 54) 55) 53 1 55) 56) 53 2 56) 57) 58) 57 0 58) 59) 57 1 59) 60) 57 2 60) 53 3 57) 53 6 (-1)) 53 7 99) 53 8 99) 44 1 53) 61) 62) 63) 62 0 63) 64) 62 1 64) 65) 62 2 65) 66) 62 3 66) 67) 62 4 67) 68) 62 5 68) 61 0 62) 61 1 37) 6 5 61) 69) 70) 70 0 0) 70 1 2) 70 2 9) 70 3 21) 70 4 21) 70 5 9) 70 6 2) 70 7 0) 69 0 70) 71) 69 1 71) 72) 69 2 72) 73) 69 3 73) 69 6 1) 6 6 69) 74) 75) 74 0 75) 76) 74 1 76) 6 7 74) 77) 78) 77 0 78) 79) 77 1 79) 6 8 77) 80) 6 9 80) 81) 82) 81 0 82) 81 1 (-1)) 80 0 81) 83) 84) 83 0 84) 83 1 (-1)) 80 1 83) 85) 86) 85 0 86) 85 1 (-1)) 80 2 85) 87) 88) 87 0 88) 87 1 (-1)) 80 3 87) 89) 90) 89 0 90) 91) 89 1 91) 92) 89 2 92) 93) 89 3 93) 94) 89 7 94) 95) 89 8 95) 96) 89 9 96) 97) 89 10 97) 98) 89 11 98) 99) 89 12 99) 100) 89 13 100) 101) 89 14 101) 102) 89 15 102) 103) 89 21 103) 104) 89 22 104) 105) 89 25 105) 106) 89 26 106) 107) 89 27 107) 108) 89 28 108) 109) 89 29 109) 110) 89 30 110) 111) 89 31 111) 112) 89 32 112) 113) 89 33 113) 114) 89 34 114) 115) 89 35 115) 116) 89 36 116) 117) 89 37 117) 118) 89 39 118) 119) 89 40 119) 90 0 (-1)) 90 1 (-1)) 90 2 (-1)) 90 3 (-1)) 97 1 19) 97 2 58) 97 3 999) 97 4 1) 97 5 9) 97 6 2) 97 7 2) 97 8 10) 97 9 10) 111 1 2) 111 2 9) 111 3 21) 111 4 21) 111 5 9) 111 6 2) Q) : WG 17 247 0 [vr 5, vu, vu, vu] [] (SH0 N ++ []) h Q := by
  refine con_1  ?_
  refine con_2  ?_
  refine con_58  ?_
  refine con_59  ?_
  refine con_67  ?_
  exact HH
