-- ===== the start keeps the invariant; the law =====
theorem HC0_s : (HC (fun _ => 0) 89 5 = 0 ∧ HC (fun _ => 0) 89 6 = 0 ∧ HC (fun _ => 0) 89 4 = 0 ∧ HC (fun _ => 0) 89 38 = 0 ∧ HC (fun _ => 0) 8 8 = 0 ∧ HC (fun _ => 0) 8 7 = 0 ∧ HC (fun _ => 0) 8 9 = 0) ∧ (HC (fun _ => 0) 36 0 = 0 ∧ HC (fun _ => 0) 36 1 = 0 ∧ HC (fun _ => 0) 36 2 = 0 ∧ HC (fun _ => 0) 36 4 = 0 ∧ HC (fun _ => 0) 37 6 = 0 ∧ HC (fun _ => 0) 6 10 = 0 ∧ HC (fun _ => 0) 77 2 = 0) ∧ (HC (fun _ => 0) 104 0 = 0 ∧ HC (fun _ => 0) 104 1 = 0 ∧ HC (fun _ => 0) 69 2 = 72 ∧ HC (fun _ => 0) 69 3 = 73) := by decide +kernel
theorem HC0_t : (HC (fun _ => 0) 45 4 = 0 ∧ HC (fun _ => 0) 45 5 = 0 ∧ HC (fun _ => 0) 45 6 = -1 ∧ HC (fun _ => 0) 45 7 = 99 ∧ HC (fun _ => 0) 45 8 = 99 ∧ HC (fun _ => 0) 49 3 = 0 ∧ HC (fun _ => 0) 49 4 = 0) ∧ (HC (fun _ => 0) 53 4 = 0 ∧ HC (fun _ => 0) 53 5 = 0 ∧ HC (fun _ => 0) 53 6 = -1 ∧ HC (fun _ => 0) 53 7 = 99 ∧ HC (fun _ => 0) 53 8 = 99 ∧ HC (fun _ => 0) 57 3 = 0 ∧ HC (fun _ => 0) 57 4 = 0) ∧ (∀ s : Nat, s < 9 → HC (fun _ => 0) 50 s = 0 ∧ HC (fun _ => 0) 51 s = 0 ∧ HC (fun _ => 0) 58 s = 0 ∧ HC (fun _ => 0) 59 s = 0) ∧ ∀ s : Nat, s < 5 → HC (fun _ => 0) 52 s = 0 ∧ HC (fun _ => 0) 60 s = 0 := by decide +kernel
theorem HC0_p : (∀ s : Nat, s < 4 → HC (fun _ => 0) 90 s = -1 ∧ HC (fun _ => 0) 91 s = 0) ∧ (HC (fun _ => 0) 81 1 = -1 ∧ HC (fun _ => 0) 83 1 = -1 ∧ HC (fun _ => 0) 85 1 = -1 ∧ HC (fun _ => 0) 87 1 = -1) ∧ (∀ c : Nat, c < 8 → 0 ≤ HC (fun _ => 0) 111 c ∧ HC (fun _ => 0) 70 c = HC (fun _ => 0) 111 c) ∧ su (HC (fun _ => 0) 111) 8 = 64 ∧ (∀ j : Nat, j < 10 → HC (fun _ => 0) 7 j = HC (fun _ => 0) 97 j) := by decide +kernel
theorem HC0_r : (0 ≤ HC (fun _ => 0) 97 0 ∧ HC (fun _ => 0) 97 0 ≤ 19 ∧ 0 ≤ HC (fun _ => 0) 97 1 ∧ HC (fun _ => 0) 97 1 ≤ 19 ∧ 0 ≤ HC (fun _ => 0) 97 2 ∧ HC (fun _ => 0) 97 2 ≤ 999) ∧ (0 ≤ HC (fun _ => 0) 97 3 ∧ HC (fun _ => 0) 97 3 ≤ 999) ∧ (0 ≤ HC (fun _ => 0) 97 4 ∧ HC (fun _ => 0) 97 4 ≤ 99) ∧ (0 ≤ HC (fun _ => 0) 97 5 ∧ HC (fun _ => 0) 97 5 ≤ 9999) ∧ (0 ≤ HC (fun _ => 0) 97 6 ∧ HC (fun _ => 0) 97 6 ≤ 19) ∧ (1 ≤ HC (fun _ => 0) 97 7 ∧ HC (fun _ => 0) 97 7 ≤ 8) ∧ (0 ≤ HC (fun _ => 0) 97 8 ∧ HC (fun _ => 0) 97 8 ≤ 99) ∧ (0 ≤ HC (fun _ => 0) 97 9 ∧ HC (fun _ => 0) 97 9 ≤ 99) := by decide +kernel
theorem inq_z {q : LN} (h : q.2.1 = 0) (O : Nat) (g : Int) : inq q O g = false := by
  cases e : inq q O g
  · rfl
  · have := inq_iff.mp e
    omega
theorem su_z {f : Int → Int} (h : ∀ g, f g = 0) : ∀ n : Nat, su f n = 0
  | 0 => rfl
  | n + 1 => by show su f n + f n = 0; rw [su_z h n, h]; rfl
theorem qM_z {q : LN} (h : q.2.1 = 0) (O : Nat) : qM q O = 0 ∧ qS q O = 0 ∧ qP q O = 0 := by
  refine ⟨su_z (fun g => ?_) 20, su_z (fun g => ?_) 20, su_z (fun g => ?_) 20⟩
  · unfold ind; rw [inq_z h, if_neg (by decide)]
  · unfold iff0; rw [inq_z h, if_neg (by decide)]
  · unfold iff0; rw [inq_z h, if_neg (by decide)]
theorem ob_z {q : LN} (h : q.2.1 = 0) : ob q = 0 := by
  have c : cq q 0 = 0 := su_z (fun g => by
    unfold ind fq
    rw [inq_z h, Bool.false_and, if_neg (by decide)]) 20
  show (if moreq q 0 then dr q 19 (nxq q 0) else 0) = 0
  rw [if_neg]
  unfold moreq
  rw [c]
  simp
theorem pk_z {g : Nat → Nat} (h : ∀ i, g i = 0) : lg (pkH g 8) = 0 := by
  rw [pkH_cg (g' := fun _ => 0) (fun i _ => h i), pkH_0]; rfl
theorem z_st {w : Int → Int} : lg (pkH (gst w 0) 8) = 0 := pk_z fun i => if_neg (by omega)
theorem z_ab {w : Int → Int} {s : Nat} : lg (pkH (gab w 0 s) 8) = 0 := pk_z fun i => if_neg (by omega)
theorem z_bl {w : Int → Int} {s : Nat} : lg (pkH (gbl w 0 s) 8) = 0 := pk_z fun i => if_neg (by omega)
theorem z_sl {w : Int → Int} {a : Nat} : lg (pkH (gsl w 0 a) 8) = 0 := pk_z fun i => if_neg (by omega)
theorem inv0 {h : HP} (E : ∀ a j, a ≠ 5 → h a j = HC (fun _ => 0) a j) : Inv h := by
  have F : ∀ {a : Nat} {j v : Int}, HC (fun _ => 0) a j = v → a ≠ 5 → h a j = v := fun e n => (E _ _ n).trans e
  obtain ⟨⟨s1, s2, s3, s4, s5, s6, s7⟩, ⟨t1, t2, t3, t5, t6, t7, t8⟩, u1, u2, u3, u4⟩ := HC0_s
  obtain ⟨⟨v1, v2, v3, v4, v5, v6, v7⟩, ⟨w1, w2, w3, w4, w5, w6, w7⟩, x1, x2⟩ := HC0_t
  obtain ⟨p1, ⟨p2, p3, p4, p5⟩, o1, o2, o3⟩ := HC0_p
  have r := HC0_r
  have z5 := F s1 (by decide)
  have z6 := F s2 (by decide)
  have q0 : (mq5 h).2.1 = 0 := z5
  have ob0 := ob_z q0
  have qz := qM_z q0 (ob (mq5 h))
  have txt : ∀ w : Int → Int, FA w 0 = -1 ∧ NRu w 0 = 0 := fun w => ⟨if_pos rfl, if_pos rfl⟩
  have sh : ∀ (S s : Nat), s < 4 → S ≠ 5 → HC (fun _ => 0) S 1 = -1 → I_sh S s h := by
    intro S s hs hS e
    have a1 := F (p1 s hs).1 (by decide)
    have a2 := F (p1 s hs).2 (by decide)
    have a3 := F e hS
    exact ⟨a3.trans a1.symm, by omega, by omega, by omega, by omega, fun q => absurd q (by omega)⟩
  refine ⟨⟨?_, ?_, ?_, ?_, ?_, ?_, ?_, ?_⟩, .inl ⟨F u3 (by decide), F u4 (by decide)⟩⟩
  · refine ⟨fun j a c => ?_, ?_⟩
    · have := o3 j.toNat (by omega)
      rw [show ((j.toNat : Nat) : Int) = j by omega] at this
      rw [E 7 j (by decide), E 97 j (by decide)]; exact this
    · show Sok h ∧ _
      unfold Sok
      rw [E 97 0 (by decide), E 97 1 (by decide), E 97 2 (by decide), E 97 3 (by decide), E 97 4 (by decide), E 97 5 (by decide), E 97 6 (by decide), E 97 7 (by decide), E 97 8 (by decide), E 97 9 (by decide)]
      exact r
  · refine ⟨⟨by omega, fun i q => absurd q (by omega)⟩, fun i j _ q => absurd q (by omega), fun i q => absurd q (by omega), ?_, ?_, fun i q => absurd q (by omega)⟩
    · rw [F s5 (by decide), z5]
    · rw [F s6 (by decide), z6]
  · refine ⟨?_, ⟨fun g a c => absurd c (by omega), ?_⟩, ⟨?_, ?_, ?_, ?_, ?_⟩, ?_, ?_, ?_⟩
    · rw [F s5 (by decide), q0]
    · rw [F s7 (by decide), q0]; rfl
    · rw [F t1 (by decide), qz.1]
    · rw [F t2 (by decide), qz.2.1]
    · rw [F t3 (by decide), qz.2.2]
    · exact fun c => absurd c (by rw [qz.1]; decide)
    · rw [F t5 (by decide), ob0]; rfl
    · rw [F t6 (by decide), q0]; rfl
    · rw [q0]; exact Nat.zero_le _
    · rw [q0]; exact fun i q => absurd q (Nat.not_lt_zero i)
  · have l0 := F u1 (by decide)
    have l1 := F u2 (by decide)
    refine ⟨fun t a c => ?_, ⟨?_, fun p a c => absurd c (by omega), ?_⟩, ?_, fun p a c => absurd c (by omega), ?_⟩
    · have : h 104 t = 0 := by
        rcases (show t = 0 ∨ t = 1 by omega) with e | e
        · rw [e]; exact l0
        · rw [e]; exact l1
      exact ⟨by omega, by omega, fun p a c => absurd c (by omega)⟩
    · rw [F v1 (by decide), l0]
    · rw [l0]
      have k := txt (Wt h 0)
      refine ⟨by rw [k.1]; exact F v3 (by decide), fun _ => ?_⟩
      rw [k.2]
      refine ⟨F v2 (by decide), fun i q => absurd q (Nat.not_lt_zero i), F v4 (by decide), F v5 (by decide), ?_, F v7 (by decide), fun s hs => ⟨?_, ?_⟩, fun a ha => ?_⟩
      · rw [z_st]; exact F v6 (by decide)
      · rw [z_ab]; exact F (x1 s hs).1 (by decide)
      · rw [z_bl]; exact F (x1 s hs).2.1 (by decide)
      · rw [z_sl]; exact F (x2 a ha).1 (by decide)
    · rw [F w1 (by decide), l1]
    · rw [l1]
      have k := txt (Wt h 1)
      refine ⟨by rw [k.1]; exact F w3 (by decide), fun _ => ?_⟩
      rw [k.2]
      refine ⟨F w2 (by decide), fun i q => absurd q (Nat.not_lt_zero i), F w4 (by decide), F w5 (by decide), ?_, F w7 (by decide), fun s hs => ⟨?_, ?_⟩, fun a ha => ?_⟩
      · rw [z_st]; exact F w6 (by decide)
      · rw [z_ab]; exact F (x1 s hs).2.2.1 (by decide)
      · rw [z_bl]; exact F (x1 s hs).2.2.2 (by decide)
      · rw [z_sl]; exact F (x2 a ha).2 (by decide)
  · exact ⟨sh 81 0 (by decide) (by decide) p2, sh 83 1 (by decide) (by decide) p3, sh 85 2 (by decide) (by decide) p4, sh 87 3 (by decide) (by decide) p5⟩
  · have c0 := F s4 (by decide)
    have c1 := F t8 (by decide)
    exact ⟨by omega, by omega, by omega, fun i q => absurd q (by omega)⟩
  · refine ⟨fun c a d => ?_, ?_⟩
    · have := o1 c.toNat (by omega)
      rw [show ((c.toNat : Nat) : Int) = c by omega] at this
      rw [E 111 c (by decide), E 70 c (by decide)]; exact this
    · rw [← o2]
      exact su_cg fun i _ => E 111 i (by decide)
  · have a1 := F s3 (by decide)
    have a2 := F t7 (by decide)
    exact ⟨by omega, by omega, by omega⟩
theorem tot_L (N : Nat) (hN : N ≤ 3072) : (SHL N).length ≤ 600006 ∧ tot (SHL N) ≤ 7302250 := by
  have a : SHR.length ≤ 1000 ∧ (SHR.map (·.2)).sum ≤ 7000000 := by decide +kernel
  have b : (SH0 N).length ≤ 10 ∧ ((SH0 N).map (·.2)).sum ≤ 200000 + N := by
    unfold SH0
    simp
    omega
  unfold tot SHL
  rw [List.length_append, List.map_append, List.sum_append]
  omega
/-- the law on the abstract machine -/
theorem law_abs (N : Nat) (hN : N ≤ 3072) (xs : Int → Int) (hx : ∀ j, R32 (xs j)) : WG 17 247 0 (ent 247 [vr 5]) [] (SH0 N) (HP0 xs) (fun r sh' h' => r = some (vi 1) ∧ sh'.length ≤ 600006 ∧ tot sh' ≤ 7302250) := by
  have L := law_loop (X := (N, xs)) (I := Inv) hN hx a1 (fun y1 y2 y3 y4 _ _ _ _ => a2 y1 y2 y3 y4) (fun y1 y2 y3 _ _ _ => a3 y1 y2 y3) (fun y1 y2 _ _ => a4 y1 y2) (fun y1 y2 _ _ => a5 y1 y2) (fun y1 y2 y3 _ _ _ => a6 y1 y2 y3) (fun y1 y2 _ _ => a7 y1 y2) a8 (fun y1 y2 _ _ => a9 y1 y2) (fun y1 y2 _ _ => a10 y1 y2) (fun y1 _ => a11 y1) (fun y1 _ => a12 y1) (fun y1 y2 _ _ => a13 y1 y2) (fun y1 y2 _ _ => a14 y1 y2) (fun y1 _ => a15 y1) (fun y1 _ => a16 y1) (fun y1 y2 y3 y4 y5 _ _ _ _ _ => a17 y1 y2 y3 y4 y5) (fun y1 y2 y3 _ _ _ => a18 y1 y2 y3) (fun y1 y2 y3 _ _ _ => a19 y1 y2 y3) (fun y1 _ => a20 y1) (fun y1 y2 _ _ => a21 y1 y2) (fun y1 _ => a22 y1) (fun y1 _ => a23 y1) (fun y1 y2 y3 _ _ _ => a24 y1 y2 y3) (fun y1 _ => a25 y1) (fun y1 y2 y3 y4 _ _ _ r => a26 y1 y2 y3 y4 r) (fun y1 y2 y3 _ _ _ => a27 y1 y2 y3) (fun y1 y2 y3 y4 y5 _ r2 _ r4 r5 => a28 y1 y2 y3 y4 y5 r2 r4 r5) (fun y1 _ => a29 y1) (fun y1 _ => a30 y1) a31 N 0 (HC xs) (inv0 (HC_sm xs).1) (Int.le_refl 0) (by show (N : Int) ≤ 0 + N; omega)
  have t := tot_L N hN
  refine law_con ((L (Fz_HC N xs)).mono fun r sh' h' q => ?_)
  obtain ⟨rfl, -, rfl⟩ := q
  exact ⟨rfl, t.1, t.2⟩
