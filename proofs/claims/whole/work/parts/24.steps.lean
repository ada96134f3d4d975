/-! ===== steps of the reference's programs, as rewriting ===== -/
section MS
variable {c : CX} {lg : LG} {β : Type}
theorem mR1 (h : qW c lg) (z w : ZZ) (f : Option Nat → jm_P β) : jm_rd (jm_gR (some (c.1 20 0)) 9 1) f (qE c lg z w) = f (some (c.1 21 1)) (qE c lg z w) := jr_rd (jr_gR (h.t rfl) rfl rfl)
theorem mG1 (h : qW c lg) (z w : ZZ) (f : Int32 → jm_P β) (j : Nat) (hj : j < 5) : jm_rd (jm_gi (some (c.1 21 1)) 1 (nI j)) f (qE c lg z w) = f (w 1 j) (qE c lg z w) := jr_rd (rMi (k := 1) h (by decide) rfl hj)
theorem mS1 (h : qW c lg) (z w : ZZ) (f : jm_P β) (j : Nat) (x : Int32) (hj : j < 5) : jm_wr (jm_si (some (c.1 21 1)) 1 (nI j) x) f (qE c lg z w) = f (qE c lg z (u2 w 1 j x)) := jr_wr (wMi (k := 1) h (by decide) rfl hj)
theorem mR2 (h : qW c lg) (z w : ZZ) (f : Option Nat → jm_P β) : jm_rd (jm_gR (some (c.1 20 0)) 9 2) f (qE c lg z w) = f (some (c.1 21 2)) (qE c lg z w) := jr_rd (jr_gR (h.t rfl) rfl rfl)
theorem mG2 (h : qW c lg) (z w : ZZ) (f : Int32 → jm_P β) (j : Nat) (hj : j < 5) : jm_rd (jm_gi (some (c.1 21 2)) 1 (nI j)) f (qE c lg z w) = f (w 2 j) (qE c lg z w) := jr_rd (rMi (k := 2) h (by decide) rfl hj)
theorem mS2 (h : qW c lg) (z w : ZZ) (f : jm_P β) (j : Nat) (x : Int32) (hj : j < 5) : jm_wr (jm_si (some (c.1 21 2)) 1 (nI j) x) f (qE c lg z w) = f (qE c lg z (u2 w 2 j x)) := jr_wr (wMi (k := 2) h (by decide) rfl hj)
theorem mR3 (h : qW c lg) (z w : ZZ) (f : Option Nat → jm_P β) : jm_rd (jm_gR (some (c.1 20 0)) 9 3) f (qE c lg z w) = f (some (c.1 21 3)) (qE c lg z w) := jr_rd (jr_gR (h.t rfl) rfl rfl)
theorem mG3 (h : qW c lg) (z w : ZZ) (f : Int32 → jm_P β) (j : Nat) (hj : j < 5) : jm_rd (jm_gi (some (c.1 21 3)) 0 (nI j)) f (qE c lg z w) = f (w 3 j) (qE c lg z w) := jr_rd (rMi (k := 3) h (by decide) rfl hj)
theorem mS3 (h : qW c lg) (z w : ZZ) (f : jm_P β) (j : Nat) (x : Int32) (hj : j < 5) : jm_wr (jm_si (some (c.1 21 3)) 0 (nI j) x) f (qE c lg z w) = f (qE c lg z (u2 w 3 j x)) := jr_wr (wMi (k := 3) h (by decide) rfl hj)
theorem mR4 (h : qW c lg) (z w : ZZ) (f : Option Nat → jm_P β) : jm_rd (jm_gR (some (c.1 20 0)) 9 4) f (qE c lg z w) = f (some (c.1 21 4)) (qE c lg z w) := jr_rd (jr_gR (h.t rfl) rfl rfl)
theorem mG4 (h : qW c lg) (z w : ZZ) (f : Int32 → jm_P β) (j : Nat) (hj : j < 5) : jm_rd (jm_gi (some (c.1 21 4)) 0 (nI j)) f (qE c lg z w) = f (w 4 j) (qE c lg z w) := jr_rd (rMi (k := 4) h (by decide) rfl hj)
theorem mS4 (h : qW c lg) (z w : ZZ) (f : jm_P β) (j : Nat) (x : Int32) (hj : j < 5) : jm_wr (jm_si (some (c.1 21 4)) 0 (nI j) x) f (qE c lg z w) = f (qE c lg z (u2 w 4 j x)) := jr_wr (wMi (k := 4) h (by decide) rfl hj)
theorem mR9 (h : qW c lg) (z w : ZZ) (f : Option Nat → jm_P β) : jm_rd (jm_gR (some (c.1 20 0)) 9 9) f (qE c lg z w) = f (some (c.1 21 9)) (qE c lg z w) := jr_rd (jr_gR (h.t rfl) rfl rfl)
theorem mG9 (h : qW c lg) (z w : ZZ) (f : Int32 → jm_P β) (j : Nat) (hj : j < 5) : jm_rd (jm_gi (some (c.1 21 9)) 0 (nI j)) f (qE c lg z w) = f (w 9 j) (qE c lg z w) := jr_rd (rMi (k := 9) h (by decide) rfl hj)
theorem mS9 (h : qW c lg) (z w : ZZ) (f : jm_P β) (j : Nat) (x : Int32) (hj : j < 5) : jm_wr (jm_si (some (c.1 21 9)) 0 (nI j) x) f (qE c lg z w) = f (qE c lg z (u2 w 9 j x)) := jr_wr (wMi (k := 9) h (by decide) rfl hj)
theorem mR10 (h : qW c lg) (z w : ZZ) (f : Option Nat → jm_P β) : jm_rd (jm_gR (some (c.1 20 0)) 9 10) f (qE c lg z w) = f (some (c.1 21 10)) (qE c lg z w) := jr_rd (jr_gR (h.t rfl) rfl rfl)
theorem mG10 (h : qW c lg) (z w : ZZ) (f : Int32 → jm_P β) (j : Nat) (hj : j < 200) : jm_rd (jm_gi (some (c.1 21 10)) 0 (nI j)) f (qE c lg z w) = f (w 10 j) (qE c lg z w) := jr_rd (rMi (k := 10) h (by decide) rfl hj)
theorem mS10 (h : qW c lg) (z w : ZZ) (f : jm_P β) (j : Nat) (x : Int32) (hj : j < 200) : jm_wr (jm_si (some (c.1 21 10)) 0 (nI j) x) f (qE c lg z w) = f (qE c lg z (u2 w 10 j x)) := jr_wr (wMi (k := 10) h (by decide) rfl hj)
theorem mR11 (h : qW c lg) (z w : ZZ) (f : Option Nat → jm_P β) : jm_rd (jm_gR (some (c.1 20 0)) 9 11) f (qE c lg z w) = f (some (c.1 21 11)) (qE c lg z w) := jr_rd (jr_gR (h.t rfl) rfl rfl)
theorem mG11 (h : qW c lg) (z w : ZZ) (f : Int32 → jm_P β) (j : Nat) (hj : j < 200) : jm_rd (jm_gi (some (c.1 21 11)) 0 (nI j)) f (qE c lg z w) = f (w 11 j) (qE c lg z w) := jr_rd (rMi (k := 11) h (by decide) rfl hj)
theorem mS11 (h : qW c lg) (z w : ZZ) (f : jm_P β) (j : Nat) (x : Int32) (hj : j < 200) : jm_wr (jm_si (some (c.1 21 11)) 0 (nI j) x) f (qE c lg z w) = f (qE c lg z (u2 w 11 j x)) := jr_wr (wMi (k := 11) h (by decide) rfl hj)
theorem mR12 (h : qW c lg) (z w : ZZ) (f : Option Nat → jm_P β) : jm_rd (jm_gR (some (c.1 20 0)) 9 12) f (qE c lg z w) = f (some (c.1 21 12)) (qE c lg z w) := jr_rd (jr_gR (h.t rfl) rfl rfl)
theorem mG12 (h : qW c lg) (z w : ZZ) (f : Int32 → jm_P β) (j : Nat) (hj : j < 200) : jm_rd (jm_gi (some (c.1 21 12)) 0 (nI j)) f (qE c lg z w) = f (w 12 j) (qE c lg z w) := jr_rd (rMi (k := 12) h (by decide) rfl hj)
theorem mS12 (h : qW c lg) (z w : ZZ) (f : jm_P β) (j : Nat) (x : Int32) (hj : j < 200) : jm_wr (jm_si (some (c.1 21 12)) 0 (nI j) x) f (qE c lg z w) = f (qE c lg z (u2 w 12 j x)) := jr_wr (wMi (k := 12) h (by decide) rfl hj)
theorem mR13 (h : qW c lg) (z w : ZZ) (f : Option Nat → jm_P β) : jm_rd (jm_gR (some (c.1 20 0)) 9 13) f (qE c lg z w) = f (some (c.1 21 13)) (qE c lg z w) := jr_rd (jr_gR (h.t rfl) rfl rfl)
theorem mG13 (h : qW c lg) (z w : ZZ) (f : Int32 → jm_P β) (j : Nat) (hj : j < 200) : jm_rd (jm_gi (some (c.1 21 13)) 0 (nI j)) f (qE c lg z w) = f (w 13 j) (qE c lg z w) := jr_rd (rMi (k := 13) h (by decide) rfl hj)
theorem mS13 (h : qW c lg) (z w : ZZ) (f : jm_P β) (j : Nat) (x : Int32) (hj : j < 200) : jm_wr (jm_si (some (c.1 21 13)) 0 (nI j) x) f (qE c lg z w) = f (qE c lg z (u2 w 13 j x)) := jr_wr (wMi (k := 13) h (by decide) rfl hj)
theorem mR14 (h : qW c lg) (z w : ZZ) (f : Option Nat → jm_P β) : jm_rd (jm_gR (some (c.1 20 0)) 9 14) f (qE c lg z w) = f (some (c.1 21 14)) (qE c lg z w) := jr_rd (jr_gR (h.t rfl) rfl rfl)
theorem mG14 (h : qW c lg) (z w : ZZ) (f : Int32 → jm_P β) (j : Nat) (hj : j < 200) : jm_rd (jm_gi (some (c.1 21 14)) 0 (nI j)) f (qE c lg z w) = f (w 14 j) (qE c lg z w) := jr_rd (rMi (k := 14) h (by decide) rfl hj)
theorem mS14 (h : qW c lg) (z w : ZZ) (f : jm_P β) (j : Nat) (x : Int32) (hj : j < 200) : jm_wr (jm_si (some (c.1 21 14)) 0 (nI j) x) f (qE c lg z w) = f (qE c lg z (u2 w 14 j x)) := jr_wr (wMi (k := 14) h (by decide) rfl hj)
theorem mR15 (h : qW c lg) (z w : ZZ) (f : Option Nat → jm_P β) : jm_rd (jm_gR (some (c.1 20 0)) 9 15) f (qE c lg z w) = f (some (c.1 21 15)) (qE c lg z w) := jr_rd (jr_gR (h.t rfl) rfl rfl)
theorem mG15 (h : qW c lg) (z w : ZZ) (f : Int32 → jm_P β) (j : Nat) (hj : j < 6) : jm_rd (jm_gi (some (c.1 21 15)) 0 (nI j)) f (qE c lg z w) = f (w 15 j) (qE c lg z w) := jr_rd (rMi (k := 15) h (by decide) rfl hj)
theorem mS15 (h : qW c lg) (z w : ZZ) (f : jm_P β) (j : Nat) (x : Int32) (hj : j < 6) : jm_wr (jm_si (some (c.1 21 15)) 0 (nI j) x) f (qE c lg z w) = f (qE c lg z (u2 w 15 j x)) := jr_wr (wMi (k := 15) h (by decide) rfl hj)
theorem mR16 (h : qW c lg) (z w : ZZ) (f : Option Nat → jm_P β) : jm_rd (jm_gR (some (c.1 20 0)) 9 16) f (qE c lg z w) = f (some (c.1 21 16)) (qE c lg z w) := jr_rd (jr_gR (h.t rfl) rfl rfl)
theorem mG16 (h : qW c lg) (z w : ZZ) (f : Int32 → jm_P β) (j : Nat) (hj : j < 72) : jm_rd (jm_gi (some (c.1 21 16)) 0 (nI j)) f (qE c lg z w) = f (w 16 j) (qE c lg z w) := jr_rd (rMi (k := 16) h (by decide) rfl hj)
theorem mS16 (h : qW c lg) (z w : ZZ) (f : jm_P β) (j : Nat) (x : Int32) (hj : j < 72) : jm_wr (jm_si (some (c.1 21 16)) 0 (nI j) x) f (qE c lg z w) = f (qE c lg z (u2 w 16 j x)) := jr_wr (wMi (k := 16) h (by decide) rfl hj)
theorem mR17 (h : qW c lg) (z w : ZZ) (f : Option Nat → jm_P β) : jm_rd (jm_gR (some (c.1 20 0)) 9 17) f (qE c lg z w) = f (some (c.1 21 17)) (qE c lg z w) := jr_rd (jr_gR (h.t rfl) rfl rfl)
theorem mG17 (h : qW c lg) (z w : ZZ) (f : Int32 → jm_P β) (j : Nat) (hj : j < 72) : jm_rd (jm_gi (some (c.1 21 17)) 0 (nI j)) f (qE c lg z w) = f (w 17 j) (qE c lg z w) := jr_rd (rMi (k := 17) h (by decide) rfl hj)
theorem mS17 (h : qW c lg) (z w : ZZ) (f : jm_P β) (j : Nat) (x : Int32) (hj : j < 72) : jm_wr (jm_si (some (c.1 21 17)) 0 (nI j) x) f (qE c lg z w) = f (qE c lg z (u2 w 17 j x)) := jr_wr (wMi (k := 17) h (by decide) rfl hj)
theorem mR18 (h : qW c lg) (z w : ZZ) (f : Option Nat → jm_P β) : jm_rd (jm_gR (some (c.1 20 0)) 9 18) f (qE c lg z w) = f (some (c.1 21 18)) (qE c lg z w) := jr_rd (jr_gR (h.t rfl) rfl rfl)
theorem mG18 (h : qW c lg) (z w : ZZ) (f : Int32 → jm_P β) (j : Nat) (hj : j < 72) : jm_rd (jm_gi (some (c.1 21 18)) 0 (nI j)) f (qE c lg z w) = f (w 18 j) (qE c lg z w) := jr_rd (rMi (k := 18) h (by decide) rfl hj)
theorem mS18 (h : qW c lg) (z w : ZZ) (f : jm_P β) (j : Nat) (x : Int32) (hj : j < 72) : jm_wr (jm_si (some (c.1 21 18)) 0 (nI j) x) f (qE c lg z w) = f (qE c lg z (u2 w 18 j x)) := jr_wr (wMi (k := 18) h (by decide) rfl hj)
theorem mR19 (h : qW c lg) (z w : ZZ) (f : Option Nat → jm_P β) : jm_rd (jm_gR (some (c.1 20 0)) 9 19) f (qE c lg z w) = f (some (c.1 21 19)) (qE c lg z w) := jr_rd (jr_gR (h.t rfl) rfl rfl)
theorem mG19 (h : qW c lg) (z w : ZZ) (f : Int32 → jm_P β) (j : Nat) (hj : j < 72) : jm_rd (jm_gi (some (c.1 21 19)) 0 (nI j)) f (qE c lg z w) = f (w 19 j) (qE c lg z w) := jr_rd (rMi (k := 19) h (by decide) rfl hj)
theorem mS19 (h : qW c lg) (z w : ZZ) (f : jm_P β) (j : Nat) (x : Int32) (hj : j < 72) : jm_wr (jm_si (some (c.1 21 19)) 0 (nI j) x) f (qE c lg z w) = f (qE c lg z (u2 w 19 j x)) := jr_wr (wMi (k := 19) h (by decide) rfl hj)
theorem mR21 (h : qW c lg) (z w : ZZ) (f : Option Nat → jm_P β) : jm_rd (jm_gR (some (c.1 20 0)) 9 21) f (qE c lg z w) = f (some (c.1 21 21)) (qE c lg z w) := jr_rd (jr_gR (h.t rfl) rfl rfl)
theorem mG21 (h : qW c lg) (z w : ZZ) (f : Int32 → jm_P β) (j : Nat) (hj : j < 4) : jm_rd (jm_gi (some (c.1 21 21)) 0 (nI j)) f (qE c lg z w) = f (w 21 j) (qE c lg z w) := jr_rd (rMi (k := 21) h (by decide) rfl hj)
theorem mS21 (h : qW c lg) (z w : ZZ) (f : jm_P β) (j : Nat) (x : Int32) (hj : j < 4) : jm_wr (jm_si (some (c.1 21 21)) 0 (nI j) x) f (qE c lg z w) = f (qE c lg z (u2 w 21 j x)) := jr_wr (wMi (k := 21) h (by decide) rfl hj)
theorem mR23 (h : qW c lg) (z w : ZZ) (f : Option Nat → jm_P β) : jm_rd (jm_gR (some (c.1 20 0)) 9 23) f (qE c lg z w) = f (some (c.1 21 23)) (qE c lg z w) := jr_rd (jr_gR (h.t rfl) rfl rfl)
theorem mG23 (h : qW c lg) (z w : ZZ) (f : Int32 → jm_P β) (j : Nat) (hj : j < 6) : jm_rd (jm_gi (some (c.1 21 23)) 0 (nI j)) f (qE c lg z w) = f (w 23 j) (qE c lg z w) := jr_rd (rMi (k := 23) h (by decide) rfl hj)
theorem mS23 (h : qW c lg) (z w : ZZ) (f : jm_P β) (j : Nat) (x : Int32) (hj : j < 6) : jm_wr (jm_si (some (c.1 21 23)) 0 (nI j) x) f (qE c lg z w) = f (qE c lg z (u2 w 23 j x)) := jr_wr (wMi (k := 23) h (by decide) rfl hj)
theorem mR24 (h : qW c lg) (z w : ZZ) (f : Option Nat → jm_P β) : jm_rd (jm_gR (some (c.1 20 0)) 9 24) f (qE c lg z w) = f (some (c.1 21 24)) (qE c lg z w) := jr_rd (jr_gR (h.t rfl) rfl rfl)
theorem mG24 (h : qW c lg) (z w : ZZ) (f : Int32 → jm_P β) (j : Nat) (hj : j < 48) : jm_rd (jm_gi (some (c.1 21 24)) 0 (nI j)) f (qE c lg z w) = f (w 24 j) (qE c lg z w) := jr_rd (rMi (k := 24) h (by decide) rfl hj)
theorem mS24 (h : qW c lg) (z w : ZZ) (f : jm_P β) (j : Nat) (x : Int32) (hj : j < 48) : jm_wr (jm_si (some (c.1 21 24)) 0 (nI j) x) f (qE c lg z w) = f (qE c lg z (u2 w 24 j x)) := jr_wr (wMi (k := 24) h (by decide) rfl hj)
theorem mR26 (h : qW c lg) (z w : ZZ) (f : Option Nat → jm_P β) : jm_rd (jm_gR (some (c.1 20 0)) 9 26) f (qE c lg z w) = f (some (c.1 21 26)) (qE c lg z w) := jr_rd (jr_gR (h.t rfl) rfl rfl)
theorem mG26 (h : qW c lg) (z w : ZZ) (f : Int32 → jm_P β) (j : Nat) (hj : j < 10) : jm_rd (jm_gi (some (c.1 21 26)) 0 (nI j)) f (qE c lg z w) = f (w 26 j) (qE c lg z w) := jr_rd (rMi (k := 26) h (by decide) rfl hj)
theorem mS26 (h : qW c lg) (z w : ZZ) (f : jm_P β) (j : Nat) (x : Int32) (hj : j < 10) : jm_wr (jm_si (some (c.1 21 26)) 0 (nI j) x) f (qE c lg z w) = f (qE c lg z (u2 w 26 j x)) := jr_wr (wMi (k := 26) h (by decide) rfl hj)
theorem mR27 (h : qW c lg) (z w : ZZ) (f : Option Nat → jm_P β) : jm_rd (jm_gR (some (c.1 20 0)) 9 27) f (qE c lg z w) = f (some (c.1 21 27)) (qE c lg z w) := jr_rd (jr_gR (h.t rfl) rfl rfl)
theorem mG27 (h : qW c lg) (z w : ZZ) (f : Int32 → jm_P β) (j : Nat) (hj : j < 10) : jm_rd (jm_gi (some (c.1 21 27)) 0 (nI j)) f (qE c lg z w) = f (w 27 j) (qE c lg z w) := jr_rd (rMi (k := 27) h (by decide) rfl hj)
theorem mS27 (h : qW c lg) (z w : ZZ) (f : jm_P β) (j : Nat) (x : Int32) (hj : j < 10) : jm_wr (jm_si (some (c.1 21 27)) 0 (nI j) x) f (qE c lg z w) = f (qE c lg z (u2 w 27 j x)) := jr_wr (wMi (k := 27) h (by decide) rfl hj)
theorem mR28 (h : qW c lg) (z w : ZZ) (f : Option Nat → jm_P β) : jm_rd (jm_gR (some (c.1 20 0)) 9 28) f (qE c lg z w) = f (some (c.1 21 28)) (qE c lg z w) := jr_rd (jr_gR (h.t rfl) rfl rfl)
theorem mG28 (h : qW c lg) (z w : ZZ) (f : Int32 → jm_P β) (j : Nat) (hj : j < 10) : jm_rd (jm_gi (some (c.1 21 28)) 0 (nI j)) f (qE c lg z w) = f (w 28 j) (qE c lg z w) := jr_rd (rMi (k := 28) h (by decide) rfl hj)
theorem mS28 (h : qW c lg) (z w : ZZ) (f : jm_P β) (j : Nat) (x : Int32) (hj : j < 10) : jm_wr (jm_si (some (c.1 21 28)) 0 (nI j) x) f (qE c lg z w) = f (qE c lg z (u2 w 28 j x)) := jr_wr (wMi (k := 28) h (by decide) rfl hj)
theorem mI0 (h : qW c lg) (z w : ZZ) (f : Int32 → jm_P β) : jm_rd (jm_gI (some (c.1 20 0)) 9 0) f (qE c lg z w) = f (w 0 0) (qE c lg z w) := jr_rd (jr_gI (h.t rfl) rfl rfl)
theorem mP0 (h : qW c lg) (z w : ZZ) (f : jm_P β) (x : Int32) : jm_wr (jm_p (some (c.1 20 0)) 9 0 (.inl x)) f (qE c lg z w) = f (qE c lg z (u2 w 0 0 x)) := jr_wr (jr_p h (h.t rfl) rfl (Nat.le_of_ble_eq_true rfl) rfl (fun _ _ q => cel_w0 rfl q))
theorem mI5 (h : qW c lg) (z w : ZZ) (f : Int32 → jm_P β) : jm_rd (jm_gI (some (c.1 20 0)) 9 5) f (qE c lg z w) = f (w 5 0) (qE c lg z w) := jr_rd (jr_gI (h.t rfl) rfl rfl)
theorem mP5 (h : qW c lg) (z w : ZZ) (f : jm_P β) (x : Int32) : jm_wr (jm_p (some (c.1 20 0)) 9 5 (.inl x)) f (qE c lg z w) = f (qE c lg z (u2 w 5 0 x)) := jr_wr (jr_p h (h.t rfl) rfl (Nat.le_of_ble_eq_true rfl) rfl (fun _ _ q => cel_w0 rfl q))
theorem mI6 (h : qW c lg) (z w : ZZ) (f : Int32 → jm_P β) : jm_rd (jm_gI (some (c.1 20 0)) 9 6) f (qE c lg z w) = f (w 6 0) (qE c lg z w) := jr_rd (jr_gI (h.t rfl) rfl rfl)
theorem mP6 (h : qW c lg) (z w : ZZ) (f : jm_P β) (x : Int32) : jm_wr (jm_p (some (c.1 20 0)) 9 6 (.inl x)) f (qE c lg z w) = f (qE c lg z (u2 w 6 0 x)) := jr_wr (jr_p h (h.t rfl) rfl (Nat.le_of_ble_eq_true rfl) rfl (fun _ _ q => cel_w0 rfl q))
theorem mI7 (h : qW c lg) (z w : ZZ) (f : Int32 → jm_P β) : jm_rd (jm_gI (some (c.1 20 0)) 9 7) f (qE c lg z w) = f (w 7 0) (qE c lg z w) := jr_rd (jr_gI (h.t rfl) rfl rfl)
theorem mP7 (h : qW c lg) (z w : ZZ) (f : jm_P β) (x : Int32) : jm_wr (jm_p (some (c.1 20 0)) 9 7 (.inl x)) f (qE c lg z w) = f (qE c lg z (u2 w 7 0 x)) := jr_wr (jr_p h (h.t rfl) rfl (Nat.le_of_ble_eq_true rfl) rfl (fun _ _ q => cel_w0 rfl q))
theorem mI8 (h : qW c lg) (z w : ZZ) (f : Int32 → jm_P β) : jm_rd (jm_gI (some (c.1 20 0)) 9 8) f (qE c lg z w) = f (w 8 0) (qE c lg z w) := jr_rd (jr_gI (h.t rfl) rfl rfl)
theorem mP8 (h : qW c lg) (z w : ZZ) (f : jm_P β) (x : Int32) : jm_wr (jm_p (some (c.1 20 0)) 9 8 (.inl x)) f (qE c lg z w) = f (qE c lg z (u2 w 8 0 x)) := jr_wr (jr_p h (h.t rfl) rfl (Nat.le_of_ble_eq_true rfl) rfl (fun _ _ q => cel_w0 rfl q))
theorem mI20 (h : qW c lg) (z w : ZZ) (f : Int32 → jm_P β) : jm_rd (jm_gI (some (c.1 20 0)) 9 20) f (qE c lg z w) = f (w 20 0) (qE c lg z w) := jr_rd (jr_gI (h.t rfl) rfl rfl)
theorem mP20 (h : qW c lg) (z w : ZZ) (f : jm_P β) (x : Int32) : jm_wr (jm_p (some (c.1 20 0)) 9 20 (.inl x)) f (qE c lg z w) = f (qE c lg z (u2 w 20 0 x)) := jr_wr (jr_p h (h.t rfl) rfl (Nat.le_of_ble_eq_true rfl) rfl (fun _ _ q => cel_w0 rfl q))
theorem mI22 (h : qW c lg) (z w : ZZ) (f : Int32 → jm_P β) : jm_rd (jm_gI (some (c.1 20 0)) 9 22) f (qE c lg z w) = f (w 22 0) (qE c lg z w) := jr_rd (jr_gI (h.t rfl) rfl rfl)
theorem mP22 (h : qW c lg) (z w : ZZ) (f : jm_P β) (x : Int32) : jm_wr (jm_p (some (c.1 20 0)) 9 22 (.inl x)) f (qE c lg z w) = f (qE c lg z (u2 w 22 0 x)) := jr_wr (jr_p h (h.t rfl) rfl (Nat.le_of_ble_eq_true rfl) rfl (fun _ _ q => cel_w0 rfl q))
theorem mI25 (h : qW c lg) (z w : ZZ) (f : Int32 → jm_P β) : jm_rd (jm_gI (some (c.1 20 0)) 9 25) f (qE c lg z w) = f (w 25 0) (qE c lg z w) := jr_rd (jr_gI (h.t rfl) rfl rfl)
theorem mP25 (h : qW c lg) (z w : ZZ) (f : jm_P β) (x : Int32) : jm_wr (jm_p (some (c.1 20 0)) 9 25 (.inl x)) f (qE c lg z w) = f (qE c lg z (u2 w 25 0 x)) := jr_wr (jr_p h (h.t rfl) rfl (Nat.le_of_ble_eq_true rfl) rfl (fun _ _ q => cel_w0 rfl q))
theorem mO (h : qW c lg) (z w : ZZ) (f : Nat → jm_P β) : jm_rd (jm_o (some (c.1 20 0)) 9) f (qE c lg z w) = f (c.1 20 0) (qE c lg z w) := jr_rd (rM_o h)
theorem jZ0 {S : jm_S} (f : Unit → jm_P β) : jm_rd (jm_z 0) f S = f () S := rfl
theorem jZ1 {S : jm_S} (f : Unit → jm_P β) : jm_rd (jm_z 1) f S = f () S := rfl
theorem jRt {S : jm_S} (v : β) : jm_ret v S = some (v, S) := rfl
theorem jBd {α : Type} {S : jm_S} (x : jm_P α) (f : α → jm_P β) : jm_bd x f S = (match x S with | none => none | some q => f q.1 q.2) := rfl
theorem n7 (s : Nat) : (7 : Int32) * nI s = nI (7 * s) := pk_mul 7 s
theorem n8 (s : Nat) : (8 : Int32) * nI s = nI (8 * s) := pk_mul 8 s
theorem n10 (s : Nat) : (10 : Int32) * nI s = nI (10 * s) := pk_mul 10 s
theorem n12 (s : Nat) : (12 : Int32) * nI s = nI (12 * s) := pk_mul 12 s
theorem n40 (s : Nat) : (40 : Int32) * nI s = nI (40 * s) := pk_mul 40 s
theorem n100 (s : Nat) : (100 : Int32) * nI s = nI (100 * s) := pk_mul 100 s
theorem n1000 (s : Nat) : (1000 : Int32) * nI s = nI (1000 * s) := pk_mul 1000 s
theorem nLit0 : (0 : Int32) = nI 0 := rfl
theorem nLit1 : (1 : Int32) = nI 1 := rfl
theorem nLit2 : (2 : Int32) = nI 2 := rfl
theorem nLit3 : (3 : Int32) = nI 3 := rfl
theorem nLit4 : (4 : Int32) = nI 4 := rfl
theorem nLit5 : (5 : Int32) = nI 5 := rfl
theorem nLit6 : (6 : Int32) = nI 6 := rfl
theorem nLit7 : (7 : Int32) = nI 7 := rfl
theorem nLit8 : (8 : Int32) = nI 8 := rfl
theorem nLit9 : (9 : Int32) = nI 9 := rfl
theorem nLit10 : (10 : Int32) = nI 10 := rfl
theorem nLit12 : (12 : Int32) = nI 12 := rfl
theorem nLit40 : (40 : Int32) = nI 40 := rfl
theorem nLit512 : (512 : Int32) = nI 512 := rfl
theorem nLit999 : (999 : Int32) = nI 999 := rfl
theorem m1_ : (-1 : Int32) = nI 4294967295 := by decide +kernel
theorem m8_ : (-8 : Int32) = nI 4294967288 := by decide +kernel
end MS
/-! ===== steps of the class's programs, as rewriting ===== -/
section XS
variable {c : CX} {lg : LG} {β : Type}
def chf (c : CX) (x : Int32) : Option Nat := if x < 0 then none else some (c.1 2 x.toNatClampNeg)
theorem chf_s {c : CX} {g : Nat} (h : g < 5) : chf c (nI g) = some (c.1 2 g) := by
  unfold chf
  rw [if_neg (nI_pos (by omega)), nI_clamp (by omega)]
theorem chf_n {c : CX} : chf c (nI 4294967288) = none := by
  unfold chf
  rw [if_pos (by decide +kernel)]
theorem xR0 (h : qW c lg) (z w : ZZ) (f : Option Nat → jm_P β) : jm_rd (jm_gR (some (c.1 0 0)) 8 0) f (qE c lg z w) = f (some (c.1 1 0)) (qE c lg z w) := jr_rd (jr_gR (h.t rfl) rfl rfl)
theorem xR1 (h : qW c lg) (z w : ZZ) (f : Option Nat → jm_P β) : jm_rd (jm_gR (some (c.1 0 0)) 8 1) f (qE c lg z w) = f (some (c.1 9 0)) (qE c lg z w) := jr_rd (jr_gR (h.t rfl) rfl rfl)
theorem xR2 (h : qW c lg) (z w : ZZ) (f : Option Nat → jm_P β) : jm_rd (jm_gR (some (c.1 0 0)) 8 2) f (qE c lg z w) = f (some (c.1 12 0)) (qE c lg z w) := jr_rd (jr_gR (h.t rfl) rfl rfl)
theorem xR3 (h : qW c lg) (z w : ZZ) (f : Option Nat → jm_P β) : jm_rd (jm_gR (some (c.1 0 0)) 8 3) f (qE c lg z w) = f (some (c.1 3 5)) (qE c lg z w) := jr_rd (jr_gR (h.t rfl) rfl rfl)
theorem xR6 (h : qW c lg) (z w : ZZ) (f : Option Nat → jm_P β) : jm_rd (jm_gR (some (c.1 0 0)) 8 6) f (qE c lg z w) = f (chf c (z 0 6)) (qE c lg z w) := jr_rd (jr_gR (h.t rfl) rfl rfl)
theorem xP6n (h : qW c lg) (z w : ZZ) (f : jm_P β) : jm_wr (jm_p (some (c.1 0 0)) 8 6 (.inr none)) f (qE c lg z w) = f (qE c lg (u2 z 0 6 (nI 4294967288)) w) := jr_wr (by rw [wX6n h]; rfl)
theorem xP6 (h : qW c lg) (z w : ZZ) (f : jm_P β) (i : Nat) (hi : i < 5) : jm_wr (jm_p (some (c.1 0 0)) 8 6 (.inr (some (c.1 2 i)))) f (qE c lg z w) = f (qE c lg (u2 z 0 6 (nI i)) w) := jr_wr (wX6 h hi)
theorem xI4 (h : qW c lg) (z w : ZZ) (f : Int32 → jm_P β) : jm_rd (jm_gI (some (c.1 0 0)) 8 4) f (qE c lg z w) = f (z 0 4) (qE c lg z w) := jr_rd (jr_gI (h.t rfl) rfl rfl)
theorem xP4 (h : qW c lg) (z w : ZZ) (f : jm_P β) (x : Int32) : jm_wr (jm_p (some (c.1 0 0)) 8 4 (.inl x)) f (qE c lg z w) = f (qE c lg (u2 z 0 4 x) w) := jr_wr (jr_p h (h.t rfl) rfl (Nat.le_of_ble_eq_true rfl) rfl (fun _ _ q => cel_z0 q))
theorem xI5 (h : qW c lg) (z w : ZZ) (f : Int32 → jm_P β) : jm_rd (jm_gI (some (c.1 0 0)) 8 5) f (qE c lg z w) = f (z 0 5) (qE c lg z w) := jr_rd (jr_gI (h.t rfl) rfl rfl)
theorem xP5 (h : qW c lg) (z w : ZZ) (f : jm_P β) (x : Int32) : jm_wr (jm_p (some (c.1 0 0)) 8 5 (.inl x)) f (qE c lg z w) = f (qE c lg (u2 z 0 5 x) w) := jr_wr (jr_p h (h.t rfl) rfl (Nat.le_of_ble_eq_true rfl) rfl (fun _ _ q => cel_z0 q))
theorem xI7 (h : qW c lg) (z w : ZZ) (f : Int32 → jm_P β) : jm_rd (jm_gI (some (c.1 0 0)) 8 7) f (qE c lg z w) = f (z 0 7) (qE c lg z w) := jr_rd (jr_gI (h.t rfl) rfl rfl)
theorem xP7 (h : qW c lg) (z w : ZZ) (f : jm_P β) (x : Int32) : jm_wr (jm_p (some (c.1 0 0)) 8 7 (.inl x)) f (qE c lg z w) = f (qE c lg (u2 z 0 7 x) w) := jr_wr (jr_p h (h.t rfl) rfl (Nat.le_of_ble_eq_true rfl) rfl (fun _ _ q => cel_z0 q))
theorem xI8 (h : qW c lg) (z w : ZZ) (f : Int32 → jm_P β) : jm_rd (jm_gI (some (c.1 0 0)) 8 8) f (qE c lg z w) = f (z 0 8) (qE c lg z w) := jr_rd (jr_gI (h.t rfl) rfl rfl)
theorem xP8 (h : qW c lg) (z w : ZZ) (f : jm_P β) (x : Int32) : jm_wr (jm_p (some (c.1 0 0)) 8 8 (.inl x)) f (qE c lg z w) = f (qE c lg (u2 z 0 8 x) w) := jr_wr (jr_p h (h.t rfl) rfl (Nat.le_of_ble_eq_true rfl) rfl (fun _ _ q => cel_z0 q))
theorem xI9 (h : qW c lg) (z w : ZZ) (f : Int32 → jm_P β) : jm_rd (jm_gI (some (c.1 0 0)) 8 9) f (qE c lg z w) = f (z 0 9) (qE c lg z w) := jr_rd (jr_gI (h.t rfl) rfl rfl)
theorem xP9 (h : qW c lg) (z w : ZZ) (f : jm_P β) (x : Int32) : jm_wr (jm_p (some (c.1 0 0)) 8 9 (.inl x)) f (qE c lg z w) = f (qE c lg (u2 z 0 9 x) w) := jr_wr (jr_p h (h.t rfl) rfl (Nat.le_of_ble_eq_true rfl) rfl (fun _ _ q => cel_z0 q))
theorem xI10 (h : qW c lg) (z w : ZZ) (f : Int32 → jm_P β) : jm_rd (jm_gI (some (c.1 0 0)) 8 10) f (qE c lg z w) = f (z 0 10) (qE c lg z w) := jr_rd (jr_gI (h.t rfl) rfl rfl)
theorem xP10 (h : qW c lg) (z w : ZZ) (f : jm_P β) (x : Int32) : jm_wr (jm_p (some (c.1 0 0)) 8 10 (.inl x)) f (qE c lg z w) = f (qE c lg (u2 z 0 10 x) w) := jr_wr (jr_p h (h.t rfl) rfl (Nat.le_of_ble_eq_true rfl) rfl (fun _ _ q => cel_z0 q))
theorem xI11 (h : qW c lg) (z w : ZZ) (f : Int32 → jm_P β) : jm_rd (jm_gI (some (c.1 0 0)) 8 11) f (qE c lg z w) = f (z 0 11) (qE c lg z w) := jr_rd (jr_gI (h.t rfl) rfl rfl)
theorem xP11 (h : qW c lg) (z w : ZZ) (f : jm_P β) (x : Int32) : jm_wr (jm_p (some (c.1 0 0)) 8 11 (.inl x)) f (qE c lg z w) = f (qE c lg (u2 z 0 11 x) w) := jr_wr (jr_p h (h.t rfl) rfl (Nat.le_of_ble_eq_true rfl) rfl (fun _ _ q => cel_z0 q))
theorem xO (h : qW c lg) (z w : ZZ) (f : Nat → jm_P β) : jm_rd (jm_o (some (c.1 0 0)) 8) f (qE c lg z w) = f (c.1 0 0) (qE c lg z w) := jr_rd (jr_o (h.t rfl) rfl)
theorem xSl (h : qW c lg) (z w : ZZ) (f : Int32 → jm_P β) : jm_rd (jm_lq (some (c.1 1 0)) 3) f (qE c lg z w) = f (nI 5) (qE c lg z w) := jr_rd (rSv h).1
theorem xSg (h : qW c lg) (z w : ZZ) (f : Option Nat → jm_P β) (i : Nat) (hi : i < 5) : jm_rd (jm_gq (some (c.1 1 0)) 3 (nI i)) f (qE c lg z w) = f (some (c.1 2 i)) (qE c lg z w) := jr_rd ((rSv h).2 i hi)
theorem sO (h : qW c lg) (z w : ZZ) (f : Nat → jm_P β) (i : Nat) (hi : i < 5) : jm_rd (jm_o (some (c.1 2 i)) 2) f (qE c lg z w) = f (c.1 2 i) (qE c lg z w) := jr_rd (rS h hi).1
theorem sI0 (h : qW c lg) (z w : ZZ) (f : Int32 → jm_P β) (i : Nat) (hi : i < 5) : jm_rd (jm_gI (some (c.1 2 i)) 2 0) f (qE c lg z w) = f (nI i) (qE c lg z w) := jr_rd (rS h hi).2.1
theorem sR1 (h : qW c lg) (z w : ZZ) (f : Option Nat → jm_P β) (i : Nat) (hi : i < 5) : jm_rd (jm_gR (some (c.1 2 i)) 2 1) f (qE c lg z w) = f (some (c.1 3 i)) (qE c lg z w) := jr_rd (rS h hi).2.2.1
theorem sR2 (h : qW c lg) (z w : ZZ) (f : Option Nat → jm_P β) (i : Nat) (hi : i < 5) : jm_rd (jm_gR (some (c.1 2 i)) 2 2) f (qE c lg z w) = f (some (c.1 6 i)) (qE c lg z w) := jr_rd (rS h hi).2.2.2.1
theorem sI3 (h : qW c lg) (z w : ZZ) (f : Int32 → jm_P β) (i : Nat) (hi : i < 5) : jm_rd (jm_gI (some (c.1 2 i)) 2 3) f (qE c lg z w) = f (z 1 i) (qE c lg z w) := jr_rd (jr_gI (h.t (qx2 hi)) rfl rfl)
theorem sP3 (h : qW c lg) (z w : ZZ) (f : jm_P β) (i : Nat) (x : Int32) (hi : i < 5) : jm_wr (jm_p (some (c.1 2 i)) 2 3 (.inl x)) f (qE c lg z w) = f (qE c lg (u2 z 1 i x) w) := jr_wr (wS h hi).1
theorem sI4 (h : qW c lg) (z w : ZZ) (f : Int32 → jm_P β) (i : Nat) (hi : i < 5) : jm_rd (jm_gI (some (c.1 2 i)) 2 4) f (qE c lg z w) = f (z 2 i) (qE c lg z w) := jr_rd (jr_gI (h.t (qx2 hi)) rfl rfl)
theorem sP4 (h : qW c lg) (z w : ZZ) (f : jm_P β) (i : Nat) (x : Int32) (hi : i < 5) : jm_wr (jm_p (some (c.1 2 i)) 2 4 (.inl x)) f (qE c lg z w) = f (qE c lg (u2 z 2 i x) w) := jr_wr (wS h hi).2.1
theorem sI5 (h : qW c lg) (z w : ZZ) (f : Int32 → jm_P β) (i : Nat) (hi : i < 5) : jm_rd (jm_gI (some (c.1 2 i)) 2 5) f (qE c lg z w) = f (z 3 i) (qE c lg z w) := jr_rd (jr_gI (h.t (qx2 hi)) rfl rfl)
theorem sP5 (h : qW c lg) (z w : ZZ) (f : jm_P β) (i : Nat) (x : Int32) (hi : i < 5) : jm_wr (jm_p (some (c.1 2 i)) 2 5 (.inl x)) f (qE c lg z w) = f (qE c lg (u2 z 3 i x) w) := jr_wr (wS h hi).2.2.1
theorem sI6 (h : qW c lg) (z w : ZZ) (f : Int32 → jm_P β) (i : Nat) (hi : i < 5) : jm_rd (jm_gI (some (c.1 2 i)) 2 6) f (qE c lg z w) = f (z 4 i) (qE c lg z w) := jr_rd (jr_gI (h.t (qx2 hi)) rfl rfl)
theorem sP6 (h : qW c lg) (z w : ZZ) (f : jm_P β) (i : Nat) (x : Int32) (hi : i < 5) : jm_wr (jm_p (some (c.1 2 i)) 2 6 (.inl x)) f (qE c lg z w) = f (qE c lg (u2 z 4 i x) w) := jr_wr (wS h hi).2.2.2
theorem tO (h : qW c lg) (z w : ZZ) (f : Nat → jm_P β) (i : Nat) (hi : i < 6) : jm_rd (jm_o (some (c.1 3 i)) 5) f (qE c lg z w) = f (c.1 3 i) (qE c lg z w) := jr_rd (rT h hi).1
theorem tI0 (h : qW c lg) (z w : ZZ) (f : Int32 → jm_P β) (i : Nat) (hi : i < 6) : jm_rd (jm_gI (some (c.1 3 i)) 5 0) f (qE c lg z w) = f (if i = 5 then -1 else nI i) (qE c lg z w) := jr_rd (rT h hi).2.1
theorem tR1 (h : qW c lg) (z w : ZZ) (f : Option Nat → jm_P β) (i : Nat) (hi : i < 6) : jm_rd (jm_gR (some (c.1 3 i)) 5 1) f (qE c lg z w) = f (some (c.1 4 i)) (qE c lg z w) := jr_rd (rT h hi).2.2.1
theorem tL (h : qW c lg) (z w : ZZ) (f : Int32 → jm_P β) (i : Nat) (hi : i < 6) : jm_rd (jm_lq (some (c.1 4 i)) 2) f (qE c lg z w) = f (nI 12) (qE c lg z w) := jr_rd (rT h hi).2.2.2.1
theorem tG (h : qW c lg) (z w : ZZ) (f : Option Nat → jm_P β) (i j : Nat) (hi : i < 6) (hj : j < 12) : jm_rd (jm_gq (some (c.1 4 i)) 2 (nI j)) f (qE c lg z w) = f (some (c.1 5 (12 * i + j))) (qE c lg z w) := jr_rd ((rT h hi).2.2.2.2 j hj)
theorem nO (h : qW c lg) (z w : ZZ) (f : Nat → jm_P β) (j : Nat) (hj : j < 72) : jm_rd (jm_o (some (c.1 5 j)) 1) f (qE c lg z w) = f (c.1 5 j) (qE c lg z w) := jr_rd (rN h hj).1
theorem nI0_ (h : qW c lg) (z w : ZZ) (f : Int32 → jm_P β) (j : Nat) (hj : j < 72) : jm_rd (jm_gI (some (c.1 5 j)) 1 0) f (qE c lg z w) = f (z 5 j) (qE c lg z w) := jr_rd (jr_gI (h.t (qx5 hj)) rfl rfl)
theorem nP0 (h : qW c lg) (z w : ZZ) (f : jm_P β) (j : Nat) (x : Int32) (hj : j < 72) : jm_wr (jm_p (some (c.1 5 j)) 1 0 (.inl x)) f (qE c lg z w) = f (qE c lg (u2 z 5 j x) w) := jr_wr (wN h hj).1
theorem nI1_ (h : qW c lg) (z w : ZZ) (f : Int32 → jm_P β) (j : Nat) (hj : j < 72) : jm_rd (jm_gI (some (c.1 5 j)) 1 1) f (qE c lg z w) = f (z 6 j) (qE c lg z w) := jr_rd (jr_gI (h.t (qx5 hj)) rfl rfl)
theorem nP1 (h : qW c lg) (z w : ZZ) (f : jm_P β) (j : Nat) (x : Int32) (hj : j < 72) : jm_wr (jm_p (some (c.1 5 j)) 1 1 (.inl x)) f (qE c lg z w) = f (qE c lg (u2 z 6 j x) w) := jr_wr (wN h hj).2.1
theorem nI2_ (h : qW c lg) (z w : ZZ) (f : Int32 → jm_P β) (j : Nat) (hj : j < 72) : jm_rd (jm_gI (some (c.1 5 j)) 1 2) f (qE c lg z w) = f (z 7 j) (qE c lg z w) := jr_rd (jr_gI (h.t (qx5 hj)) rfl rfl)
theorem nP2 (h : qW c lg) (z w : ZZ) (f : jm_P β) (j : Nat) (x : Int32) (hj : j < 72) : jm_wr (jm_p (some (c.1 5 j)) 1 2 (.inl x)) f (qE c lg z w) = f (qE c lg (u2 z 7 j x) w) := jr_wr (wN h hj).2.2.1
theorem nI3_ (h : qW c lg) (z w : ZZ) (f : Int32 → jm_P β) (j : Nat) (hj : j < 72) : jm_rd (jm_gI (some (c.1 5 j)) 1 3) f (qE c lg z w) = f (z 8 j) (qE c lg z w) := jr_rd (jr_gI (h.t (qx5 hj)) rfl rfl)
theorem nP3 (h : qW c lg) (z w : ZZ) (f : jm_P β) (j : Nat) (x : Int32) (hj : j < 72) : jm_wr (jm_p (some (c.1 5 j)) 1 3 (.inl x)) f (qE c lg z w) = f (qE c lg (u2 z 8 j x) w) := jr_wr (wN h hj).2.2.2
theorem lO (h : qW c lg) (z w : ZZ) (f : Nat → jm_P β) (i : Nat) (hi : i < 6) : jm_rd (jm_o (some (c.1 6 i)) 0) f (qE c lg z w) = f (c.1 6 i) (qE c lg z w) := jr_rd (rL h hi).1
theorem lS (h : qW c lg) (z w : ZZ) (f : Int32 → jm_P β) (i : Nat) (hi : i < 6) : jm_bd (fJx4a65c_size_8abf5 (c.1 6 i)) f (qE c lg z w) = f (z 20 i) (qE c lg z w) := jr_bd (l_size h hi)
theorem xT0 (z w : ZZ) (f : Int32 → jm_P β) (a : Nat) (t : c.2.1 a = some (8, a)) : jm_rd (jm_gI (some a) 4 0) f (qE c lg z w) = f (z 12 a) (qE c lg z w) := jr_rd (jr_gI t rfl rfl)
theorem xT1 (z w : ZZ) (f : Int32 → jm_P β) (a : Nat) (t : c.2.1 a = some (8, a)) : jm_rd (jm_gI (some a) 4 1) f (qE c lg z w) = f (z 13 a) (qE c lg z w) := jr_rd (jr_gI t rfl rfl)
theorem xT2 (z w : ZZ) (f : Int32 → jm_P β) (a : Nat) (t : c.2.1 a = some (8, a)) : jm_rd (jm_gI (some a) 4 2) f (qE c lg z w) = f (z 14 a) (qE c lg z w) := jr_rd (jr_gI t rfl rfl)
theorem xT3 (z w : ZZ) (f : Int32 → jm_P β) (a : Nat) (t : c.2.1 a = some (8, a)) : jm_rd (jm_gI (some a) 4 3) f (qE c lg z w) = f (z 15 a) (qE c lg z w) := jr_rd (jr_gI t rfl rfl)
theorem xT4 (z w : ZZ) (f : Int32 → jm_P β) (a : Nat) (t : c.2.1 a = some (8, a)) : jm_rd (jm_gI (some a) 4 4) f (qE c lg z w) = f (z 16 a) (qE c lg z w) := jr_rd (jr_gI t rfl rfl)
theorem xTc (z w : ZZ) (f : Unit → jm_P β) (a : Nat) (t : c.2.1 a = some (8, a)) : jm_rd (jm_ck (some a) 4) f (qE c lg z w) = f () (qE c lg z w) := jr_rd (jr_ck t rfl)
theorem vI0 (z w : ZZ) (f : Int32 → jm_P β) (a : Nat) (t : c.2.1 a = some (13, a)) : jm_rd (jm_gI (some a) 6 0) f (qE c lg z w) = f (z 17 a) (qE c lg z w) := jr_rd (jr_gI t rfl rfl)
theorem vI2 (z w : ZZ) (f : Int32 → jm_P β) (a : Nat) (t : c.2.1 a = some (13, a)) : jm_rd (jm_gI (some a) 6 2) f (qE c lg z w) = f (z 19 a) (qE c lg z w) := jr_rd (jr_gI t rfl rfl)
theorem vR1 (z w : ZZ) (f : Option Nat → jm_P β) (a : Nat) (t : c.2.1 a = some (13, a)) : jm_rd (jm_gR (some a) 6 1) f (qE c lg z w) = f (some (c.1 10 (c.2.2.2.1 a))) (qE c lg z w) := jr_rd (jr_gR t rfl rfl)
theorem vC (z w : ZZ) (f : Unit → jm_P β) (a : Nat) (t : c.2.1 a = some (13, a)) : jm_rd (jm_ck (some a) 6) f (qE c lg z w) = f () (qE c lg z w) := jr_rd (jr_ck t rfl)
theorem vO (z w : ZZ) (f : Nat → jm_P β) (a : Nat) (t : c.2.1 a = some (13, a)) : jm_rd (jm_o (some a) 6) f (qE c lg z w) = f a (qE c lg z w) := jr_rd (jr_o t rfl)
theorem eL (h : qW c lg) (z w : ZZ) (f : Int32 → jm_P β) : jm_rd (jm_lq (some (c.1 9 0)) 4) f (qE c lg z w) = f (nI 6) (qE c lg z w) := jr_rd (rSe h).1
theorem eG (h : qW c lg) (z w : ZZ) (f : Option Nat → jm_P β) (i : Nat) (hi : i < 6) : jm_rd (jm_gq (some (c.1 9 0)) 4 (nI i)) f (qE c lg z w) = f (some (c.1 10 i)) (qE c lg z w) := jr_rd ((rSe h).2 i hi)
theorem eO (h : qW c lg) (z w : ZZ) (f : Nat → jm_P β) (i : Nat) (hi : i < 6) : jm_rd (jm_o (some (c.1 10 i)) 3) f (qE c lg z w) = f (c.1 10 i) (qE c lg z w) := jr_rd (rE h hi).1
theorem eI0 (h : qW c lg) (z w : ZZ) (f : Int32 → jm_P β) (i : Nat) (hi : i < 6) : jm_rd (jm_gI (some (c.1 10 i)) 3 0) f (qE c lg z w) = f (nI i) (qE c lg z w) := jr_rd (rE h hi).2.1
theorem eI1 (h : qW c lg) (z w : ZZ) (f : Int32 → jm_P β) (i : Nat) (hi : i < 6) : jm_rd (jm_gI (some (c.1 10 i)) 3 1) f (qE c lg z w) = f (z 10 i) (qE c lg z w) := jr_rd (rE h hi).2.2.1
theorem eR2 (h : qW c lg) (z w : ZZ) (f : Option Nat → jm_P β) (i : Nat) (hi : i < 6) : jm_rd (jm_gR (some (c.1 10 i)) 3 2) f (qE c lg z w) = f (some (c.1 11 i)) (qE c lg z w) := jr_rd (rE h hi).2.2.2.1
theorem eA (h : qW c lg) (z w : ZZ) (f : Int32 → jm_P β) (i j : Nat) (hi : i < 6) (hj : j < 8) : jm_rd (jm_gi (some (c.1 11 i)) 0 (nI j)) f (qE c lg z w) = f (z 11 (8 * i + j)) (qE c lg z w) := jr_rd ((rE h hi).2.2.2.2 j hj)
theorem eP1 (h : qW c lg) (z w : ZZ) (f : jm_P β) (i : Nat) (x : Int32) (hi : i < 6) : jm_wr (jm_p (some (c.1 10 i)) 3 1 (.inl x)) f (qE c lg z w) = f (qE c lg (u2 z 10 i x) w) := jr_wr (wE h hi).1
theorem eS (h : qW c lg) (z w : ZZ) (f : jm_P β) (i j : Nat) (x : Int32) (hi : i < 6) (hj : j < 8) : jm_wr (jm_si (some (c.1 11 i)) 0 (nI j) x) f (qE c lg z w) = f (qE c lg (u2 z 11 (8 * i + j) x) w) := jr_wr ((wE h hi).2 j hj)
theorem yO (h : qW c lg) (z w : ZZ) (f : Nat → jm_P β) : jm_rd (jm_o (some (c.1 12 0)) 7) f (qE c lg z w) = f (c.1 12 0) (qE c lg z w) := jr_rd (rWs h).1
theorem yR (h : qW c lg) (z w : ZZ) (f : Option Nat → jm_P β) : jm_rd (jm_gR (some (c.1 12 0)) 7 0) f (qE c lg z w) = f (some (c.1 6 5)) (qE c lg z w) := jr_rd (rWs h).2
end XS
