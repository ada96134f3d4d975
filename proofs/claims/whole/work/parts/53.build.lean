/-! ===== memory by offsets: what the constructors make ===== -/
def qB (n0 t0 : Nat) (T : Nat → Option jm_E) (m s : Nat) : jm_S := (fun a => if a = t0 then some jm_fz else if a < n0 then none else T (a - n0), n0 + m, s, t0)
section BU
variable {n0 t0 : Nat} {T : Nat → Option jm_E} {m s j : Nat} {β : Type}
theorem qB_at (ht : t0 < n0) : (qB n0 t0 T m s).1 (n0 + j) = T j := by
  show (if n0 + j = t0 then _ else if n0 + j < n0 then _ else T (n0 + j - n0)) = _
  rw [if_neg (by omega), if_neg (by omega), Nat.add_sub_cancel_left]
theorem qB_set (ht : t0 < n0) (e : jm_E) : (va_up (qB n0 t0 T m s).1 (n0 + j) (some e), (qB n0 t0 T m s).2) = qB n0 t0 (va_up T j (some e)) m s := by
  refine Prod.ext ?_ rfl
  funext a
  show va_up _ (n0 + j) (some e) a = (if a = t0 then _ else if a < n0 then _ else va_up T j (some e) (a - n0))
  by_cases h : a = n0 + j
  · subst h
    rw [va_s, if_neg (by omega), if_neg (by omega), Nat.add_sub_cancel_left, va_s]
  · rw [va_n h]
    show (if a = t0 then _ else if a < n0 then _ else T (a - n0)) = _
    by_cases h1 : a = t0
    · rw [if_pos h1, if_pos h1]
    · rw [if_neg h1, if_neg h1]
      by_cases h2 : a < n0
      · rw [if_pos h2, if_pos h2]
      · rw [if_neg h2, if_neg h2, va_n (by omega)]
theorem bP {ci k : Nat} {fs : List jm_V} {v : jm_V} (ht : t0 < n0) (h : T j = some (.inr (ci, fs))) (hk : k < fs.length) (f : jm_P β) : jm_wr (jm_p (some (n0 + j)) ci k v) f (qB n0 t0 T m s) = f (qB n0 t0 (va_up T j (some (.inr (ci, fs.set k v)))) m s) := by
  rw [jr_wr (raw_p (by rw [qB_at ht]; exact h) hk), qB_set ht]
theorem bN {ci : Nat} {fs : List jm_V} (ht : t0 < n0) (f : Nat → jm_P β) : jm_bd (jm_new ci fs) f (qB n0 t0 T m s) = f (n0 + m) (qB n0 t0 (va_up T m (some (.inr (ci, fs)))) (m + 1) (s + fs.length)) := by
  refine (jr_bd (S1 := (va_up (qB n0 t0 T m s).1 (n0 + m) (some (.inr (ci, fs))), n0 + m + 1, s + fs.length, t0)) (v := n0 + m) rfl).trans ?_
  congr 1
  have e := congrArg Prod.fst (qB_set (s := s) (m := m) (T := T) (j := m) ht (.inr (ci, fs)))
  exact Prod.ext e rfl
end BU
