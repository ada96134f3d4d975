abbrev jm_S0 (n0 t0 : Nat) : jm_S := (fun a => if a = t0 then some jm_fz else none, n0, 0, t0)
theorem law_pure (L : Nat) (hL : L ≤ 1536) (xs : Nat → Int32) (n0 t0 : Nat) (ht : t0 < n0) : ∃ Sf : jm_S, fL_law L xs (jm_S0 n0 t0) = some (1, Sf) ∧ Sf.2.1 ≤ n0 + 600000 ∧ Sf.2.2.1 ≤ 0 + 7302250 := law_all hL ht
