/-- the law on the abstract machine: what is left to be shown -/
theorem law_abs (N : Nat) (hN : N ≤ 3072) (xs : Int → Int) (hx : ∀ j, R32 (xs j)) : WG 17 247 0 (ent 247 [vr 5]) [] (SH0 N) (HP0 xs) (fun r sh' h' => r = some (vi 1) ∧ sh'.length ≤ 600006 ∧ tot sh' ≤ 7302250) := sorry
