/-! ===== tree, list, server, session are made ===== -/
section BV
variable {n0 t0 : Nat} {T : Nat → Option jm_E} {m s j : Nat} {β : Type}
theorem b_tree {x : Int32} (ht : t0 < n0) (hj : j < m) (hT : T j = some (.inr (5, [.inl 0, .inr none]))) : fX4_init (n0 + j) x (qB n0 t0 T m s) = some ((), qB n0 t0 (tP n0 T x j m 12) (m + 13) (s + 60)) := by
  unfold fX4_init
  have h1 : va_up T m (some (.inl (2, 12, .inr (fun _ => none)))) j = some (.inr (5, [.inl 0, .inr none])) := by
    rw [va_n (by omega)]; exact hT
  rw [bNN, show (12 : Int32) = nI 12 from rfl, bNq ht (by omega), bP ht h1 (by simp), bP ht (va_s _ _ _) (by simp), va_va]
  have e : va_up (va_up T m (some (.inl (2, 12, .inr (fun _ => none))))) j (some (.inr (5, (([.inl 0, .inr none] : List jm_V).set 1 (.inr (some (n0 + m)))).set 0 (.inl x)))) = tP n0 T x j m 0 := by
    funext a
    unfold tP
    by_cases h : a = j
    · subst h
      rw [va_s, if_pos rfl]; rfl
    · rw [va_n h, if_neg h]
      by_cases h2 : a = m
      · subst h2
        rw [va_s, if_pos rfl]
        rfl
      · rw [va_n h2, if_neg h2, if_neg (by omega)]
  rw [e]
  have h2 := b_tree_l (x := x) (T := T) ht hj 12 0 (s + 12) (by omega) 4096 (by omega)
  exact h2
theorem b_list (ht : t0 < n0) (hT : T j = some (.inr (0, [.inl 0, .inr none, .inl 0]))) : fJx4a65c_init_da8c8 (n0 + j) (qB n0 t0 T m s) = some ((), qB n0 t0 (va_up T j (some (.inr (0, [.inl 0, .inr (some t0), .inl 0])))) m s) := by
  unfold fJx4a65c_init_da8c8
  have e : fJxc12de_init_da8c8 (n0 + j) (qB n0 t0 T m s) = some ((), qB n0 t0 (va_up T j (some (.inr (0, [.inl 0, .inr none, .inl 0])))) m s) := by
    unfold fJxc12de_init_da8c8
    refine (jr_bd (show fJxa1e45_init_da8c8 (n0 + j) (qB n0 t0 T m s) = some ((), _) from rfl)).trans ?_
    rw [bP ht hT (by simp)]
    rfl
  refine (jr_bd e).trans ?_
  rw [bT0, bP ht (va_s _ _ _) (by simp), va_va]
  rfl
/-- a server: object, list, tree, row, nodes -/
def sP (n0 t0 : Nat) (T : Nat → Option jm_E) (x : Int32) (m : Nat) : Nat → Option jm_E := va_up (tP n0 (va_up T (m + 1) (some (.inr (0, [.inl 0, .inr (some t0), .inl 0])))) x (m + 2) (m + 3) 12) m (some (.inr (2, [.inl x, .inr (some (n0 + (m + 2))), .inr (some (n0 + (m + 1))), .inl 0, .inl 0, .inl 0, .inl 0])))
theorem tP_o {x : Int32} {k a : Nat} (h1 : a ≠ j) (h2 : a ≠ m) (h3 : ¬ (m + 1 ≤ a ∧ a < m + 1 + k)) : tP n0 T x j m k a = T a := by
  unfold tP
  rw [if_neg h1, if_neg h2, if_neg h3]
theorem tP_c {x : Int32} {k : Nat} {T' : Nat → Option jm_E} (h : ∀ a, a ≠ j → T' a = T a) : tP n0 T' x j m k = tP n0 T x j m k := by
  funext a
  unfold tP
  by_cases h1 : a = j
  · rw [if_pos h1, if_pos h1]
  · rw [if_neg h1, if_neg h1, h a h1]
theorem b_sv {x : Int32} (ht : t0 < n0) (hT : T m = some (.inr (2, [.inl 0, .inr none, .inr none, .inl 0, .inl 0, .inl 0, .inl 0]))) : fX1_init (n0 + m) x (qB n0 t0 T (m + 1) s) = some ((), qB n0 t0 (sP n0 t0 T x m) (m + 16) (s + 65)) := by
  unfold fX1_init
  rw [bNN, bN ht]
  refine (jr_bd (b_list ht (va_s _ _ _))).trans ?_
  rw [va_va]
  have h1 : va_up T (m + 1) (some (.inr (0, [.inl 0, .inr (some t0), .inl 0]))) m = some (.inr (2, [.inl 0, .inr none, .inr none, .inl 0, .inl 0, .inl 0, .inl 0])) := by
    rw [va_n (by omega)]; exact hT
  rw [bP ht h1 (by simp), bP ht (va_s _ _ _) (by simp), va_va, bN ht]
  refine (jr_bd (b_tree (m := m + 3) ht (show m + 1 + 1 < m + 3 by omega) (va_s _ _ _))).trans ?_
  rw [tP_c (T := va_up (va_up T (m + 1) (some (.inr (0, [.inl 0, .inr (some t0), .inl 0])))) m (some (.inr (2, (([.inl 0, .inr none, .inr none, .inl 0, .inl 0, .inl 0, .inl 0] : List jm_V).set 2 (.inr (some (n0 + (m + 1))))).set 0 (.inl x))))) (fun a ha => va_n ha)]
  have h2 : tP n0 (va_up (va_up T (m + 1) (some (.inr (0, [.inl 0, .inr (some t0), .inl 0])))) m (some (.inr (2, (([.inl 0, .inr none, .inr none, .inl 0, .inl 0, .inl 0, .inl 0] : List jm_V).set 2 (.inr (some (n0 + (m + 1))))).set 0 (.inl x))))) x (m + 1 + 1) (m + 3) 12 m = some (.inr (2, [.inl x, .inr none, .inr (some (n0 + (m + 1))), .inl 0, .inl 0, .inl 0, .inl 0])) := by
    rw [tP_o (by omega) (by omega) (by omega), va_s]; rfl
  rw [bP ht h2 (by simp)]
  have e : va_up (tP n0 (va_up (va_up T (m + 1) (some (.inr (0, [.inl 0, .inr (some t0), .inl 0])))) m (some (.inr (2, (([.inl 0, .inr none, .inr none, .inl 0, .inl 0, .inl 0, .inl 0] : List jm_V).set 2 (.inr (some (n0 + (m + 1))))).set 0 (.inl x))))) x (m + 1 + 1) (m + 3) 12) m (some (.inr (2, ([.inl x, .inr none, .inr (some (n0 + (m + 1))), .inl 0, .inl 0, .inl 0, .inl 0] : List jm_V).set 1 (.inr (some (n0 + (m + 1 + 1))))))) = sP n0 t0 T x m := by
    funext a
    unfold sP
    by_cases h : a = m
    · subst h; rw [va_s, va_s]; rfl
    · rw [va_n h, va_n h]
      unfold tP
      by_cases h3 : a = m + 2
      · rw [if_pos h3, if_pos h3]
      · rw [if_neg h3, if_neg h3, va_n h]
  rw [e]
  rfl
/-- a session: object, row -/
def eP (n0 : Nat) (T : Nat → Option jm_E) (x : Int32) (m : Nat) : Nat → Option jm_E := va_up (va_up T (m + 1) (some (.inl (0, 8, .inl (fun _ => 0))))) m (some (.inr (3, [.inl x, .inl 0, .inr (some (n0 + (m + 1)))])))
theorem b_se {x : Int32} (ht : t0 < n0) (hT : T m = some (.inr (3, [.inl 0, .inl 0, .inr none]))) : fX2_init (n0 + m) x (qB n0 t0 T (m + 1) s) = some ((), qB n0 t0 (eP n0 T x m) (m + 2) (s + 8)) := by
  unfold fX2_init
  have h1 : va_up T (m + 1) (some (.inl (0, 8, .inl (fun _ => 0)))) m = some (.inr (3, [.inl 0, .inl 0, .inr none])) := by
    rw [va_n (by omega)]; exact hT
  rw [bNN, show (8 : Int32) = nI 8 from rfl, bNa ht (by omega), bP ht h1 (by simp), bP ht (va_s _ _ _) (by simp), va_va]
  rfl
/-- one turn of the servers' loop -/
theorem b_sv1 {k f : Nat} {fs : List jm_V} {g : Nat → Option Nat} (ht : t0 < n0) (hm : 1 < m) (h0 : T 0 = some (.inr (8, fs))) (hf : fs[0]? = some (.inr (some (n0 + 1)))) (h1 : T 1 = some (.inl (3, 5, .inr g))) (hk : k < 5) : fX7_init_46 (f + 1) (n0 + 0) (nI k) (qB n0 t0 T m s) = fX7_init_46 f (n0 + 0) (nI (k + 1)) (qB n0 t0 (va_up (sP n0 t0 T (nI k) m) 1 (some (.inl (3, 5, .inr (va_up g k (some (n0 + m))))))) (m + 16) (s + 72)) := by
  rw [fX7_init_46, bGR ht h0 hf, bLq ht h1, jr_f (nI_ge hk (by omega)), bGR ht h0 hf, bN ht]
  refine (jr_bd (b_sv ht (va_s _ _ _))).trans ?_
  have e : sP n0 t0 (va_up T m (some (.inr (2, [.inl 0, .inr none, .inr none, .inl 0, .inl 0, .inl 0, .inl 0])))) (nI k) m = sP n0 t0 T (nI k) m := by
    funext a
    unfold sP
    by_cases h : a = m
    · rw [h, va_s, va_s]
    · rw [va_n h, va_n h]
      unfold tP
      by_cases h2 : a = m + 1
      · subst h2; rw [va_s, va_s]
      · rw [va_n h2, va_n h2, va_n h]
  have h1' : sP n0 t0 T (nI k) m 1 = some (.inl (3, 5, .inr g)) := by
    unfold sP
    rw [va_n (by omega), tP_o (by omega) (by omega) (by omega), va_n (by omega)]
    exact h1
  rw [e, nI_1, bSq ht h1' hk (by omega) (by
    unfold jm_fit
    simp only [qB_at ht]
    unfold sP
    simp only [va_s]
    rfl)]
  rfl
/-- one turn of the sessions' loop -/
theorem b_se1 {k f : Nat} {fs : List jm_V} {g : Nat → Option Nat} (ht : t0 < n0) (hm : 2 < m) (h0 : T 0 = some (.inr (8, fs))) (hf : fs[1]? = some (.inr (some (n0 + 2)))) (h1 : T 2 = some (.inl (4, 6, .inr g))) (hk : k < 6) : fX7_init_77 (f + 1) (n0 + 0) (nI k) (qB n0 t0 T m s) = fX7_init_77 f (n0 + 0) (nI (k + 1)) (qB n0 t0 (va_up (eP n0 T (nI k) m) 2 (some (.inl (4, 6, .inr (va_up g k (some (n0 + m))))))) (m + 2) (s + 11)) := by
  rw [fX7_init_77, bGR ht h0 hf, bLq ht h1, jr_f (nI_ge hk (by omega)), bGR ht h0 hf, bN ht]
  refine (jr_bd (b_se ht (va_s _ _ _))).trans ?_
  have e : eP n0 (va_up T m (some (.inr (3, [.inl 0, .inl 0, .inr none])))) (nI k) m = eP n0 T (nI k) m := by
    funext a
    unfold eP
    by_cases h : a = m
    · rw [h, va_s, va_s]
    · rw [va_n h, va_n h]
      by_cases h2 : a = m + 1
      · subst h2; rw [va_s, va_s]
      · rw [va_n h2, va_n h2, va_n h]
  have h1' : eP n0 T (nI k) m 2 = some (.inl (4, 6, .inr g)) := by
    unfold eP
    rw [va_n (by omega), va_n (by omega)]
    exact h1
  rw [e, nI_1, bSq ht h1' hk (by omega) (by
    unfold jm_fit
    simp only [qB_at ht]
    unfold eP
    simp only [va_s]
    rfl)]
  rfl
/-- the list, empty, is cleared -/
theorem b_clr {x : Int32} (ht : t0 < n0) (hT : T j = some (.inr (0, [.inl x, .inr (some t0), .inl 0]))) : fJx4a65c_clear_da8c8 (n0 + j) (qB n0 t0 T m s) = some ((), qB n0 t0 (va_up T j (some (.inr (0, [.inl (x + 1), .inr (some t0), .inl 0])))) m s) := by
  unfold fJx4a65c_clear_da8c8
  rw [bGI ht hT rfl, bP ht hT (by simp), bGR ht (va_s _ _ _) rfl, bGI ht (va_s _ _ _) rfl, bP ht (va_s _ _ _) (by simp), va_va, fJx4a65c_clear_da8c8_27, jr_t (by decide)]
  rfl
theorem bGq {t n i : Nat} {g : Nat → Option Nat} (ht : t0 < n0) (h : T j = some (.inl (t, n, .inr g))) (hi : i < n) (hn : n < 2 ^ 31) (f : Option Nat → jm_P β) : jm_rd (jm_gq (some (n0 + j)) t (nI i)) f (qB n0 t0 T m s) = f (g i) (qB n0 t0 T m s) := by
  refine jr_rd ?_
  unfold jm_gq
  simp only [bAq ht h, if_neg (jr_in hi hn)]
  rw [nI_clamp (by omega)]
/-- the tree, empty, is cleared: nothing changes -/
theorem b_tc_l {r : Nat} {g : Nat → Option Nat} (ht : t0 < n0) (hr : T r = some (.inl (2, 12, .inr g))) (hg : ∀ i, i < 12 → g i = some (n0 + (r + 1 + i)) ∧ T (r + 1 + i) = some (.inr (1, [.inl (-1), .inl 0, .inl 0, .inl 0]))) : ∀ n i, i + n = 12 → ∀ f, n < f → fX4_clear_10 f (some (n0 + r)) (nI 12) (nI i) (qB n0 t0 T m s) = some ((), qB n0 t0 T m s) := by
  intro n
  induction n with
  | zero =>
    intro i hi f hf
    obtain ⟨f, rfl⟩ : ∃ k', f = k' + 1 := ⟨f - 1, by omega⟩
    rw [fX4_clear_10, jr_t (nI_le (by omega) (by omega))]; rfl
  | succ n ih =>
    intro i hi f hf
    obtain ⟨f, rfl⟩ : ∃ k', f = k' + 1 := ⟨f - 1, by omega⟩
    obtain ⟨g1, g2⟩ := hg i (by omega)
    rw [fX4_clear_10, jr_f (nI_ge (by omega) (by omega)), bGq ht hr (by omega) (by omega), g1, bP ht g2 (by simp), nI_1]
    have e : va_up T (r + 1 + i) (some (.inr (1, ([.inl (-1), .inl 0, .inl 0, .inl 0] : List jm_V).set 0 (.inl (-1))))) = T := by
      have h := va_self T (r + 1 + i)
      rw [g2] at h
      exact h
    rw [e]
    exact ih (i + 1) (by omega) f (by omega)
theorem b_tc {r : Nat} {x : Int32} {g : Nat → Option Nat} (ht : t0 < n0) (hT : T j = some (.inr (5, [.inl x, .inr (some (n0 + r))]))) (hr : T r = some (.inl (2, 12, .inr g))) (hg : ∀ i, i < 12 → g i = some (n0 + (r + 1 + i)) ∧ T (r + 1 + i) = some (.inr (1, [.inl (-1), .inl 0, .inl 0, .inl 0]))) : fX4_clear (n0 + j) (qB n0 t0 T m s) = some ((), qB n0 t0 T m s) := by
  unfold fX4_clear
  rw [bGR ht hT rfl, bLq ht hr]
  exact b_tc_l ht hr hg 12 0 (by omega) 4096 (by omega)
/-- a server starts anew: its list's counter, up -/
theorem b_sa {r tj lj b : Nat} {x y : Int32} {g : Nat → Option Nat} (ht : t0 < n0) (hb : b = 0 ∨ b = 1) (hS : T j = some (.inr (2, [.inl y, .inr (some (n0 + tj)), .inr (some (n0 + lj)), .inl 0, .inl 0, .inl 0, .inl 0]))) (hL : T lj = some (.inr (0, [.inl 0, .inr (some t0), .inl 0]))) (hT : T tj = some (.inr (5, [.inl x, .inr (some (n0 + r))]))) (hr : T r = some (.inl (2, 12, .inr g))) (hg : ∀ i, i < 12 → g i = some (n0 + (r + 1 + i)) ∧ T (r + 1 + i) = some (.inr (1, [.inl (-1), .inl 0, .inl 0, .inl 0]))) (h1 : j ≠ lj) (h2 : tj ≠ lj) (h3 : r ≠ lj) (h4 : ∀ i, i < 12 → r + 1 + i ≠ lj) : fX1_startAnew (n0 + j) (nI b) (qB n0 t0 T m s) = some ((), qB n0 t0 (va_up (va_up T lj (some (.inr (0, [.inl 1, .inr (some t0), .inl 0])))) j (some (.inr (2, [.inl y, .inr (some (n0 + tj)), .inr (some (n0 + lj)), .inl (nI b), .inl 0, .inl 0, .inl 0])))) m s) := by
  unfold fX1_startAnew
  rw [bGR ht hS rfl, bO ht hL, jr_bd (b_clr ht hL)]
  have hS' := (va_n (f := T) (x := some (.inr (0, [.inl (0 + 1), .inr (some t0), .inl 0]))) h1).trans hS
  have hT' := (va_n (f := T) (x := some (.inr (0, [.inl (0 + 1), .inr (some t0), .inl 0]))) h2).trans hT
  have hr' := (va_n (f := T) (x := some (.inr (0, [.inl (0 + 1), .inr (some t0), .inl 0]))) h3).trans hr
  have hg' : ∀ i, i < 12 → g i = some (n0 + (r + 1 + i)) ∧ va_up T lj (some (.inr (0, [.inl (0 + 1), .inr (some t0), .inl 0]))) (r + 1 + i) = some (.inr (1, [.inl (-1), .inl 0, .inl 0, .inl 0])) := fun i hi => ⟨(hg i hi).1, (va_n (h4 i hi)).trans (hg i hi).2⟩
  rw [bGR ht hS' rfl, bO ht hT', jr_bd (b_tc ht hT' hr' hg')]
  have hz : jm_z (nI b) (qB n0 t0 (va_up T lj (some (.inr (0, [.inl (0 + 1), .inr (some t0), .inl 0])))) m s) = some () := by
    rcases hb with q | q <;> subst q <;> rfl
  rw [jr_rd hz, bP ht hS' (by simp), jZ0, bP ht (va_s _ _ _) (by simp), va_va, bP ht (va_s _ _ _) (by simp), va_va, bP ht (va_s _ _ _) (by simp), va_va]
  rfl
end BV
