/-! ===== java.util.ArrayList as lists ===== -/
section LI
variable {c : CX} {lg : LG} {z w : ZZ}
/-- list i holds l -/
def LI (c : CX) (lg : LG) (z : ZZ) (i : Nat) (l : List Nat) : Prop := z 20 i = nI l.length ∧ (∀ j, lg i j = l[j]?) ∧ l.length ≤ c.2.2.1 i ∧ c.2.2.1 i ≤ 1000
theorem LI.keep {c c' : CX} {lg lg' : LG} {z z' : ZZ} {i : Nat} {l : List Nat} (h : LI c lg z i l) (h1 : z' 20 i = z 20 i) (h2 : lg' i = lg i) (h3 : c'.2.2.1 i = c.2.2.1 i) : LI c' lg' z' i l := by
  obtain ⟨a, b, d, e⟩ := h
  exact ⟨h1.trans a, fun j => by rw [h2]; exact b j, by rw [h3]; exact d, by rw [h3]; exact e⟩
theorem LI.t {i : Nat} {l : List Nat} (hW : qW c lg) (hi : i < 6) (h : LI c lg z i l) (hl : 0 < l.length) : c.2.1 (c.1 7 i) = some (7, i) := by
  rcases hW.2.2.2.1 i hi with ⟨h1, -⟩ | ⟨-, h1⟩
  · have := h.2.2.1
    omega
  · exact h1
theorem l_size {i : Nat} (hW : qW c lg) (hi : i < 6) : fJx4a65c_size_8abf5 (c.1 6 i) (qE c lg z w) = some (z 20 i, qE c lg z w) := by
  unfold fJx4a65c_size_8abf5
  rw [jr_rd (rL hW hi).2.2.2]
  rfl
theorem l_isEmpty {i : Nat} {l : List Nat} (hW : qW c lg) (hi : i < 6) (h : LI c lg z i l) : fJx4a65c_isEmpty_aae02 (c.1 6 i) (qE c lg z w) = some (if l = [] then 1 else 0, qE c lg z w) := by
  unfold fJx4a65c_isEmpty_aae02
  have hb := h.2.2.1
  have hc := h.2.2.2
  rw [jr_rd (rL hW hi).2.2.2, h.1]
  cases l with
  | nil => rw [jr_t (by rfl)]; rfl
  | cons a l => rw [jr_f (nI_ne0 (by simp) (by omega))]; rfl
theorem l_idx {j n : Nat} {S : jm_S} (hj : j < n) (hn : n < 2 ^ 31) : fJ15_checkIndex_7cf53 (nI j) (nI n) S = some (nI j, S) := by
  unfold fJ15_checkIndex_7cf53
  have e : fJ3_checkIndex_8e157 (nI j) (nI n) none S = some (nI j, S) := by
    unfold fJ3_checkIndex_8e157
    rw [jr_f (nI_pos (by omega)), jr_t (nI_lt hj hn)]
    rfl
  rw [jr_bd e]
  rfl
theorem l_get {i j : Nat} {l : List Nat} (hW : qW c lg) (hi : i < 6) (h : LI c lg z i l) (hj : j < l.length) : fJx4a65c_get_915e3 (c.1 6 i) (nI j) (qE c lg z w) = some (l[j]?, qE c lg z w) := by
  have hb := h.2.2.1
  have hc := h.2.2.2
  have ht := LI.t hW hi h (by omega)
  unfold fJx4a65c_get_915e3
  rw [jr_rd (rL hW hi).2.2.2, h.1, jr_bd (l_idx hj (by omega)), jr_rd (rL hW hi).1]
  have e : fJx4a65c_elementData_915e3 (c.1 6 i) (nI j) (qE c lg z w) = some (l[j]?, qE c lg z w) := by
    unfold fJx4a65c_elementData_915e3
    rw [jr_rd (rL hW hi).2.2.1, jr_rd (jr_gq ht rfl (by omega) (by omega)), h.2.1 j]
    rfl
  rw [jr_bd e]
  rfl
/-- the addresses stay when a list's contents change to others that are there -/
theorem qW.lg {i : Nat} {g : Nat → Option Nat} (hW : qW c lg) (h5 : ∀ j a, i < 5 → g j = some a → c.2.1 a = some (8, a)) (h6 : ∀ j a, i = 5 → g j = some a → c.2.1 a = some (13, a)) : qW c (va_up lg i g) := by
  obtain ⟨a1, a2, a3, a4, a5, a6, a7⟩ := hW
  refine ⟨a1, a2, a3, a4, a5, fun i' j a hi' hj => ?_, fun j a hj => ?_⟩
  · by_cases e : i' = i
    · subst e
      simp only [va_up, if_true] at hj
      exact h5 j a hi' hj
    · simp only [va_up, if_neg e] at hj
      exact a6 i' j a hi' hj
  · by_cases e : 5 = i
    · subst e
      simp only [va_up, if_true] at hj
      exact h6 j a rfl hj
    · simp only [va_up, if_neg e] at hj
      exact a7 j a hj
theorem qW.sub {i : Nat} {g : Nat → Option Nat} (hW : qW c lg) (h : ∀ j a, g j = some a → ∃ j', lg i j' = some a) : qW c (va_up lg i g) :=
  hW.lg (fun j a hi hj => by obtain ⟨j', h1⟩ := h j a hj; exact hW.2.2.2.2.2.1 i j' a hi h1) (fun j a hi hj => by obtain ⟨j', h1⟩ := h j a hj; subst hi; exact hW.2.2.2.2.2.2 j' a h1)
/-- one place of a list's row -/
theorem w7 {i j : Nat} {x : Option Nat} (hW : qW c lg) (ht : c.2.1 (c.1 7 i) = some (7, i)) (hj : j < c.2.2.1 i) (hc : c.2.2.1 i ≤ 1000) (hx : jm_fit (qE c lg z w) 5 x = true) : jm_sq (some (c.1 7 i)) 5 (nI j) x (qE c lg z w) = some (qE c (va_up lg i (va_up (lg i) j x)) z w) := by
  refine jr_sq hW ht rfl hj (by omega) hx ?_ (fun _ _ q => cel_lg q)
  simp [cel, va_up]
theorem l_clr {i : Nat} (hi : i < 6) : ∀ (n j m : Nat) (lg : LG), qW c lg → m ≤ j + n → m < c.2.2.1 i + 1 → c.2.2.1 i ≤ 1000 → (m ≤ j ∨ c.2.1 (c.1 7 i) = some (7, i)) → ∀ k, n < k → ∃ lg', fJx4a65c_clear_da8c8_27 k (some (c.1 7 i)) (nI m) (nI j) (qE c lg z w) = some ((), qE c lg' z w) ∧ qW c lg' ∧ (∀ i', i' ≠ i → lg' i' = lg i') ∧ ∀ a, lg' i a = if j ≤ a ∧ a < m then none else lg i a := by
  intro n
  induction n with
  | zero =>
    intro j m lg hW h1 h2 h3 h4 k hk
    obtain ⟨k, rfl⟩ : ∃ k', k = k' + 1 := ⟨k - 1, by omega⟩
    refine ⟨lg, ?_, hW, fun _ _ => rfl, fun a => by rw [if_neg (by omega)]⟩
    rw [fJx4a65c_clear_da8c8_27, jr_t (nI_le (by omega) (by omega))]
    rfl
  | succ n ih =>
    intro j m lg hW h1 h2 h3 h4 k hk
    obtain ⟨k, rfl⟩ : ∃ k', k = k' + 1 := ⟨k - 1, by omega⟩
    by_cases hm : m ≤ j
    · refine ⟨lg, ?_, hW, fun _ _ => rfl, fun a => by rw [if_neg (by omega)]⟩
      rw [fJx4a65c_clear_da8c8_27, jr_t (nI_le (by omega) (by omega))]
      rfl
    · have ht : c.2.1 (c.1 7 i) = some (7, i) := h4.resolve_left hm
      have hW1 : qW c (va_up lg i (va_up (lg i) j none)) := hW.sub (fun j' a hj' => ⟨j', by
        by_cases e : j' = j
        · subst e
          simp [va_up] at hj'
        · simpa [va_up, e] using hj'⟩)
      obtain ⟨lg', e1, e2, e3, e4⟩ := ih (j + 1) m _ hW1 (by omega) h2 h3 (Or.inr ht) k (by omega)
      refine ⟨lg', ?_, e2, fun i' hi' => by rw [e3 i' hi']; simp [va_up, hi'], fun a => ?_⟩
      · rw [fJx4a65c_clear_da8c8_27, jr_f (nI_ge (by omega) (by omega)), jr_wr (w7 hW ht (by omega) h3 rfl), nI_1]
        exact e1
      · rw [e4 a]
        by_cases e : a = j
        · subst e
          rw [if_neg (by omega), if_pos (by omega)]
          simp [va_up]
        · have h5 : va_up lg i (va_up (lg i) j none) i a = lg i a := by simp [va_up, e]
          rw [h5]
          by_cases h6 : j + 1 ≤ a ∧ a < m
          · rw [if_pos h6, if_pos (by omega)]
          · rw [if_neg h6, if_neg (by omega)]
theorem l_clear {i : Nat} {l : List Nat} (hW : qW c lg) (hi : i < 6) (h : LI c lg z i l) : ∃ lg' x, fJx4a65c_clear_da8c8 (c.1 6 i) (qE c lg z w) = some ((), qE c lg' (u2 (u2 z 9 i x) 20 i 0) w) ∧ qW c lg' ∧ (∀ i', i' ≠ i → lg' i' = lg i') ∧ LI c lg' (u2 (u2 z 9 i x) 20 i 0) i [] := by
  obtain ⟨a, b, d, e⟩ := id h
  have h4 : l.length ≤ 0 ∨ c.2.1 (c.1 7 i) = some (7, i) := by
    by_cases h0 : l.length ≤ 0
    · exact Or.inl h0
    · exact Or.inr (LI.t hW hi h (by omega))
  obtain ⟨lg', e1, e2, e3, e4⟩ := l_clr (c := c) (z := u2 (u2 z 9 i (z 9 i + 1)) 20 i 0) (w := w) hi l.length 0 l.length lg hW (by omega) (by omega) e h4 4096 (by omega)
  refine ⟨lg', z 9 i + 1, ?_, e2, e3, by rw [u2_s]; rfl, fun j => ?_, Nat.zero_le _, e⟩
  · unfold fJx4a65c_clear_da8c8
    rw [jr_rd (rL hW hi).2.1, jr_wr (wL hW hi).1, jr_rd (rL hW hi).2.2.1, jr_rd (rL hW hi).2.2.2, jr_wr (wL hW hi).2]
    rw [u2_k (show (20 : Nat) ≠ 9 by decide), a]
    exact e1
  · rw [e4 j, b j]
    by_cases hj : j < l.length
    · rw [if_pos ⟨Nat.zero_le _, hj⟩]
      rfl
    · rw [if_neg (by omega), List.getElem?_eq_none (by omega)]
      rfl
end LI
