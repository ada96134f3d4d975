/-! ===== memory by offsets: what the constructors make ===== -/
def qB (n0 t0 : Nat) (T : Nat → Option jm_E) (m s : Nat) : jm_S := (fun a => if a = t0 then some jm_fz else if a < n0 then none else T (a - n0), n0 + m, s, t0)
section BU
variable {n0 t0 : Nat} {T : Nat → Option jm_E} {m s j : Nat} {β : Type}
theorem qB_at (ht : t0 < n0) : (qB n0 t0 T m s).1 (n0 + j) = T j := by
  show (if n0 + j = t0 then _ else if n0 + j < n0 then _ else T (n0 + j - n0)) = _
  rw [if_neg (by omega), if_neg (by omega), Nat.add_sub_cancel_left]
theorem qB_set (ht : t0 < n0) (e : jm_E) : (va_up (qB n0 t0 T m s).1 (n0 + j) (some e), (qB n0 t0 T m s).2) = qB n0 t0 (va_up T j (some e)) m s := by
  refine Prod.ext ?_ rfl
  funext a
  show va_up _ (n0 + j) (some e) a = (if a = t0 then _ else if a < n0 then _ else va_up T j (some e) (a - n0))
  by_cases h : a = n0 + j
  · subst h
    rw [va_s, if_neg (by omega), if_neg (by omega), Nat.add_sub_cancel_left, va_s]
  · rw [va_n h]
    show (if a = t0 then _ else if a < n0 then _ else T (a - n0)) = _
    by_cases h1 : a = t0
    · rw [if_pos h1, if_pos h1]
    · rw [if_neg h1, if_neg h1]
      by_cases h2 : a < n0
      · rw [if_pos h2, if_pos h2]
      · rw [if_neg h2, if_neg h2, va_n (by omega)]
theorem bP {ci k : Nat} {fs : List jm_V} {v : jm_V} (ht : t0 < n0) (h : T j = some (.inr (ci, fs))) (hk : k < fs.length) (f : jm_P β) : jm_wr (jm_p (some (n0 + j)) ci k v) f (qB n0 t0 T m s) = f (qB n0 t0 (va_up T j (some (.inr (ci, fs.set k v)))) m s) := by
  rw [jr_wr (raw_p (by rw [qB_at ht]; exact h) hk), qB_set ht]
theorem bN {ci : Nat} {fs : List jm_V} (ht : t0 < n0) (f : Nat → jm_P β) : jm_bd (jm_new ci fs) f (qB n0 t0 T m s) = f (n0 + m) (qB n0 t0 (va_up T m (some (.inr (ci, fs)))) (m + 1) (s + fs.length)) := by
  refine (jr_bd (S1 := (va_up (qB n0 t0 T m s).1 (n0 + m) (some (.inr (ci, fs))), n0 + m + 1, s + fs.length, t0)) (v := n0 + m) rfl).trans ?_
  congr 1
  have e := congrArg Prod.fst (qB_set (s := s) (m := m) (T := T) (j := m) ht (.inr (ci, fs)))
  exact Prod.ext e rfl
theorem bOb {ci : Nat} {fs : List jm_V} (ht : t0 < n0) (h : T j = some (.inr (ci, fs))) : jm_ob (qB n0 t0 T m s) (some (n0 + j)) ci = some (n0 + j, fs) := by
  unfold jm_ob
  simp only [qB_at ht, h, if_true]
theorem bGR {ci k : Nat} {fs : List jm_V} {v : Option Nat} (ht : t0 < n0) (h : T j = some (.inr (ci, fs))) (hv : fs[k]? = some (.inr v)) (f : Option Nat → jm_P β) : jm_rd (jm_gR (some (n0 + j)) ci k) f (qB n0 t0 T m s) = f v (qB n0 t0 T m s) := by
  refine jr_rd ?_
  unfold jm_gR
  simp only [bOb ht h, hv]
theorem bGI {ci k : Nat} {fs : List jm_V} {v : Int32} (ht : t0 < n0) (h : T j = some (.inr (ci, fs))) (hv : fs[k]? = some (.inl v)) (f : Int32 → jm_P β) : jm_rd (jm_gI (some (n0 + j)) ci k) f (qB n0 t0 T m s) = f v (qB n0 t0 T m s) := by
  refine jr_rd ?_
  unfold jm_gI
  simp only [bOb ht h, hv]
theorem bO {ci : Nat} {fs : List jm_V} (ht : t0 < n0) (h : T j = some (.inr (ci, fs))) (f : Nat → jm_P β) : jm_rd (jm_o (some (n0 + j)) ci) f (qB n0 t0 T m s) = f (n0 + j) (qB n0 t0 T m s) := by
  refine jr_rd ?_
  unfold jm_o
  simp only [bOb ht h]
theorem bNN {a : Nat} {S : jm_S} (f : Unit → jm_P β) : jm_rd (jm_nn (some a)) f S = f () S := rfl
theorem bT0 (f : Option Nat → jm_P β) : jm_rd jm_t0 f (qB n0 t0 T m s) = f (some t0) (qB n0 t0 T m s) := rfl
theorem bAq {t n : Nat} {g : Nat → Option Nat} (ht : t0 < n0) (h : T j = some (.inl (t, n, .inr g))) : jm_aq (qB n0 t0 T m s) (some (n0 + j)) t = some (n0 + j, n, g) := by
  unfold jm_aq
  simp only [qB_at ht, h, if_true]
theorem bLq {t n : Nat} {g : Nat → Option Nat} (ht : t0 < n0) (h : T j = some (.inl (t, n, .inr g))) (f : Int32 → jm_P β) : jm_rd (jm_lq (some (n0 + j)) t) f (qB n0 t0 T m s) = f (nI n) (qB n0 t0 T m s) := by
  refine jr_rd ?_
  unfold jm_lq
  rw [if_neg (fun q => by
    have h1 : n0 + j = t0 := Option.some.inj q.2
    omega), bAq ht h]
  rfl
theorem bSq {t n i : Nat} {g : Nat → Option Nat} {x : Option Nat} (ht : t0 < n0) (h : T j = some (.inl (t, n, .inr g))) (hi : i < n) (hn : n < 2 ^ 31) (hx : jm_fit (qB n0 t0 T m s) t x = true) (f : jm_P β) : jm_wr (jm_sq (some (n0 + j)) t (nI i) x) f (qB n0 t0 T m s) = f (qB n0 t0 (va_up T j (some (.inl (t, n, .inr (va_up g i x))))) m s) := by
  refine jr_wr ?_
  unfold jm_sq
  simp only [bAq ht h, if_neg (jr_in hi hn), if_pos hx]
  rw [nI_clamp (by omega), qB_set ht]
theorem bNq {t n : Nat} (ht : t0 < n0) (hn : n ≤ 1000) (f : Option Nat → jm_P β) : jm_bd (jm_nq t (nI n)) f (qB n0 t0 T m s) = f (some (n0 + m)) (qB n0 t0 (va_up T m (some (.inl (t, n, .inr (fun _ => none))))) (m + 1) (s + n)) := by
  have hc : (nI n).toNatClampNeg = n := nI_clamp (by omega)
  refine (jr_bd (S1 := (va_up (qB n0 t0 T m s).1 (n0 + m) (some (.inl (t, n, .inr (fun _ => none)))), n0 + m + 1, s + n, t0)) (v := some (n0 + m)) ?_).trans ?_
  · unfold jm_nq
    rw [hc, if_neg (by
      rintro (q | q)
      · exact nI_pos (by omega) q
      · omega)]
    rfl
  · congr 1
    have e := congrArg Prod.fst (qB_set (s := s) (m := m) (T := T) (j := m) ht (.inl (t, n, .inr (fun _ => none))))
    exact Prod.ext e rfl
theorem bNa {t n : Nat} (ht : t0 < n0) (hn : n ≤ 1000) (f : Option Nat → jm_P β) : jm_bd (jm_na t (nI n)) f (qB n0 t0 T m s) = f (some (n0 + m)) (qB n0 t0 (va_up T m (some (.inl (t, n, .inl (fun _ => 0))))) (m + 1) (s + n)) := by
  have hc : (nI n).toNatClampNeg = n := nI_clamp (by omega)
  refine (jr_bd (S1 := (va_up (qB n0 t0 T m s).1 (n0 + m) (some (.inl (t, n, .inl (fun _ => 0)))), n0 + m + 1, s + n, t0)) (v := some (n0 + m)) ?_).trans ?_
  · unfold jm_na
    rw [hc, if_neg (by
      rintro (q | q)
      · exact nI_pos (by omega) q
      · omega)]
    rfl
  · congr 1
    have e := congrArg Prod.fst (qB_set (s := s) (m := m) (T := T) (j := m) ht (.inl (t, n, .inl (fun _ => 0))))
    exact Prod.ext e rfl
end BU
