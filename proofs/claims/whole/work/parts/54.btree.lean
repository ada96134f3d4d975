/-! ===== a tree is made ===== -/
section BT
variable {n0 t0 : Nat} {T : Nat → Option jm_E} {m s j : Nat}
/-- the tree's object at j, its row at m, k nodes behind it -/
def tP (n0 : Nat) (T : Nat → Option jm_E) (x : Int32) (j m k : Nat) : Nat → Option jm_E := fun a => if a = j then some (.inr (5, [.inl x, .inr (some (n0 + m))])) else if a = m then some (.inl (2, 12, .inr (fun i => if i < k then some (n0 + (m + 1 + i)) else none))) else if m + 1 ≤ a ∧ a < m + 1 + k then some (.inr (1, [.inl (-1), .inl 0, .inl 0, .inl 0])) else T a
theorem b_tree_l {x : Int32} (ht : t0 < n0) (hj : j < m) : ∀ n k s, k + n = 12 → ∀ f, n < f → fX4_init_20 f (n0 + j) (nI k) (qB n0 t0 (tP n0 T x j m k) (m + 1 + k) s) = some ((), qB n0 t0 (tP n0 T x j m 12) (m + 13) (s + 4 * n)) := by
  intro n
  induction n with
  | zero =>
    intro k s hk f hf
    obtain ⟨f, rfl⟩ : ∃ k', f = k' + 1 := ⟨f - 1, by omega⟩
    have e : k = 12 := by omega
    subst e
    have hTj : tP n0 T x j m 12 j = some (.inr (5, [.inl x, .inr (some (n0 + m))])) := if_pos rfl
    have hTm : tP n0 T x j m 12 m = some (.inl (2, 12, .inr (fun i => if i < 12 then some (n0 + (m + 1 + i)) else none))) := by
      unfold tP
      rw [if_neg (by omega), if_pos rfl]
    rw [fX4_init_20, bGR ht hTj rfl, bLq ht hTm, jr_t (nI_le (by omega) (by omega))]
    rfl
  | succ n ih =>
    intro k s hk f hf
    obtain ⟨f, rfl⟩ : ∃ k', f = k' + 1 := ⟨f - 1, by omega⟩
    have hTj : tP n0 T x j m k j = some (.inr (5, [.inl x, .inr (some (n0 + m))])) := if_pos rfl
    have hTm : tP n0 T x j m k m = some (.inl (2, 12, .inr (fun i => if i < k then some (n0 + (m + 1 + i)) else none))) := by
      unfold tP
      rw [if_neg (by omega), if_pos rfl]
    have e := ih (k + 1) (s + 4) (by omega) f (by omega)
    rw [fX4_init_20, bGR ht hTj rfl, bLq ht hTm, jr_f (nI_ge (by omega) (by omega)), bGR ht hTj rfl, bN ht]
    have h0 : fX0_init (n0 + (m + 1 + k)) (qB n0 t0 (va_up (tP n0 T x j m k) (m + 1 + k) (some (.inr (1, [.inl 0, .inl 0, .inl 0, .inl 0])))) (m + 1 + k + 1) (s + 4)) = some ((), qB n0 t0 (va_up (tP n0 T x j m k) (m + 1 + k) (some (.inr (1, [.inl (-1), .inl 0, .inl 0, .inl 0])))) (m + 1 + k + 1) (s + 4)) := by
      unfold fX0_init
      rw [bNN, bP ht (va_s _ _ _) (by simp), va_va]
      rfl
    refine (jr_bd h0).trans ?_
    rw [nI_1]
    have hTm2 : va_up (tP n0 T x j m k) (m + 1 + k) (some (.inr (1, [.inl (-1), .inl 0, .inl 0, .inl 0]))) m = some (.inl (2, 12, .inr (fun i => if i < k then some (n0 + (m + 1 + i)) else none))) := by
      rw [va_n (by omega)]; exact hTm
    rw [bSq ht hTm2 (by omega) (by omega) (by
      unfold jm_fit
      simp only [qB_at ht, va_s]
      rfl)]
    have eT : va_up (va_up (tP n0 T x j m k) (m + 1 + k) (some (.inr (1, [.inl (-1), .inl 0, .inl 0, .inl 0])))) m (some (.inl (2, 12, .inr (va_up (fun i => if i < k then some (n0 + (m + 1 + i)) else none) k (some (n0 + (m + 1 + k))))))) = tP n0 T x j m (k + 1) := by
      have eg : va_up (fun i => if i < k then some (n0 + (m + 1 + i)) else none) k (some (n0 + (m + 1 + k))) = (fun i => if i < k + 1 then some (n0 + (m + 1 + i)) else none) := by
        funext i
        by_cases h : i = k
        · subst h; rw [va_s, if_pos (by omega)]
        · rw [va_n h]
          by_cases h2 : i < k
          · rw [if_pos h2, if_pos (by omega)]
          · rw [if_neg h2, if_neg (by omega)]
      rw [eg]
      funext a
      by_cases hm : a = m
      · subst hm
        rw [va_s]
        unfold tP
        rw [if_neg (by omega), if_pos rfl]
      · rw [va_n hm]
        by_cases hk2 : a = m + 1 + k
        · subst hk2
          rw [va_s]
          unfold tP
          rw [if_neg (by omega), if_neg hm, if_pos (by omega)]
        · rw [va_n hk2]
          unfold tP
          by_cases ha : a = j
          · rw [if_pos ha, if_pos ha]
          · rw [if_neg ha, if_neg ha, if_neg hm, if_neg hm]
            by_cases h3 : m + 1 ≤ a ∧ a < m + 1 + k
            · rw [if_pos h3, if_pos (by omega)]
            · rw [if_neg h3, if_neg (by omega)]
    rw [eT, show m + 1 + k + 1 = m + 1 + (k + 1) by omega, e, show s + 4 + 4 * n = s + 4 * (n + 1) by omega]
end BT
