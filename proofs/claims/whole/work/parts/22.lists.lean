/-! ===== java.util.ArrayList as lists ===== -/
section LI
variable {c : CX} {lg : LG} {z w : ZZ}
/-- list i holds l -/
def LI (c : CX) (lg : LG) (z : ZZ) (i : Nat) (l : List Nat) : Prop := z 20 i = nI l.length ∧ (∀ j, lg i j = l[j]?) ∧ l.length ≤ c.2.2.1 i ∧ c.2.2.1 i ≤ 1000
theorem LI.keep {c c' : CX} {lg lg' : LG} {z z' : ZZ} {i : Nat} {l : List Nat} (h : LI c lg z i l) (h1 : z' 20 i = z 20 i) (h2 : lg' i = lg i) (h3 : c'.2.2.1 i = c.2.2.1 i) : LI c' lg' z' i l := by
  obtain ⟨a, b, d, e⟩ := h
  exact ⟨h1.trans a, fun j => by rw [h2]; exact b j, by rw [h3]; exact d, by rw [h3]; exact e⟩
theorem LI.t {i : Nat} {l : List Nat} (hW : qW c lg) (hi : i < 6) (h : LI c lg z i l) (hl : 0 < l.length) : c.2.1 (c.1 7 i) = some (7, i) := by
  rcases hW.2.2.2.1 i hi with ⟨h1, -⟩ | ⟨-, h1⟩
  · have := h.2.2.1
    omega
  · exact h1
theorem l_size {i : Nat} (hW : qW c lg) (hi : i < 6) : fJx4a65c_size_8abf5 (c.1 6 i) (qE c lg z w) = some (z 20 i, qE c lg z w) := by
  unfold fJx4a65c_size_8abf5
  rw [jr_rd (rL hW hi).2.2.2]
  rfl
theorem l_isEmpty {i : Nat} {l : List Nat} (hW : qW c lg) (hi : i < 6) (h : LI c lg z i l) : fJx4a65c_isEmpty_aae02 (c.1 6 i) (qE c lg z w) = some (if l = [] then 1 else 0, qE c lg z w) := by
  unfold fJx4a65c_isEmpty_aae02
  have hb := h.2.2.1
  have hc := h.2.2.2
  rw [jr_rd (rL hW hi).2.2.2, h.1]
  cases l with
  | nil => rw [jr_t (by rfl)]; rfl
  | cons a l => rw [jr_f (nI_ne0 (by simp) (by omega))]; rfl
theorem l_idx {j n : Nat} {S : jm_S} (hj : j < n) (hn : n < 2 ^ 31) : fJ15_checkIndex_7cf53 (nI j) (nI n) S = some (nI j, S) := by
  unfold fJ15_checkIndex_7cf53
  have e : fJ3_checkIndex_8e157 (nI j) (nI n) none S = some (nI j, S) := by
    unfold fJ3_checkIndex_8e157
    rw [jr_f (nI_pos (by omega)), jr_t (nI_lt hj hn)]
    rfl
  rw [jr_bd e]
  rfl
theorem l_get {i j : Nat} {l : List Nat} (hW : qW c lg) (hi : i < 6) (h : LI c lg z i l) (hj : j < l.length) : fJx4a65c_get_915e3 (c.1 6 i) (nI j) (qE c lg z w) = some (l[j]?, qE c lg z w) := by
  have hb := h.2.2.1
  have hc := h.2.2.2
  have ht := LI.t hW hi h (by omega)
  unfold fJx4a65c_get_915e3
  rw [jr_rd (rL hW hi).2.2.2, h.1, jr_bd (l_idx hj (by omega)), jr_rd (rL hW hi).1]
  have e : fJx4a65c_elementData_915e3 (c.1 6 i) (nI j) (qE c lg z w) = some (l[j]?, qE c lg z w) := by
    unfold fJx4a65c_elementData_915e3
    rw [jr_rd (rL hW hi).2.2.1, jr_rd (jr_gq ht rfl (by omega) (by omega)), h.2.1 j]
    rfl
  rw [jr_bd e]
  rfl
/-- the addresses stay when a list's contents change to others that are there -/
theorem qW.lgs {i : Nat} {g : Nat → Option Nat} (hW : qW c lg) (h5 : ∀ j a, i < 5 → g j = some a → c.2.1 a = some (8, a)) (h6 : ∀ j a, i = 5 → g j = some a → c.2.1 a = some (13, a)) : qW c (va_up lg i g) := by
  obtain ⟨a1, a2, a3, a4, a5, a6, a7⟩ := hW
  refine ⟨a1, a2, a3, a4, a5, fun i' j a hi' hj => ?_, fun j a hj => ?_⟩
  · by_cases e : i' = i
    · subst e
      simp only [va_up, if_true] at hj
      exact h5 j a hi' hj
    · simp only [va_up, if_neg e] at hj
      exact a6 i' j a hi' hj
  · by_cases e : 5 = i
    · subst e
      simp only [va_up, if_true] at hj
      exact h6 j a rfl hj
    · simp only [va_up, if_neg e] at hj
      exact a7 j a hj
theorem qW.sub {i : Nat} {g : Nat → Option Nat} (hW : qW c lg) (h : ∀ j a, g j = some a → ∃ j', lg i j' = some a) : qW c (va_up lg i g) :=
  hW.lgs (fun j a hi hj => by obtain ⟨j', h1⟩ := h j a hj; exact hW.2.2.2.2.2.1 i j' a hi h1) (fun j a hi hj => by obtain ⟨j', h1⟩ := h j a hj; subst hi; exact hW.2.2.2.2.2.2 j' a h1)
/-- one place of a list's row -/
theorem w7 {i j : Nat} {x : Option Nat} (hW : qW c lg) (ht : c.2.1 (c.1 7 i) = some (7, i)) (hj : j < c.2.2.1 i) (hc : c.2.2.1 i ≤ 1000) (hx : jm_fit (qE c lg z w) 5 x = true) : jm_sq (some (c.1 7 i)) 5 (nI j) x (qE c lg z w) = some (qE c (va_up lg i (va_up (lg i) j x)) z w) := by
  refine jr_sq hW ht rfl hj (by omega) hx ?_ (fun _ _ q => cel_lg q)
  simp [cel, va_up]
theorem l_clr {i : Nat} (hi : i < 6) : ∀ (n j m : Nat) (lg : LG), qW c lg → j ≤ m → m ≤ j + n → m < c.2.2.1 i + 1 → c.2.2.1 i ≤ 1000 → (m ≤ j ∨ c.2.1 (c.1 7 i) = some (7, i)) → ∀ k, n < k → ∃ lg', fJx4a65c_clear_da8c8_27 k (some (c.1 7 i)) (nI m) (nI j) (qE c lg z w) = some ((), qE c lg' z w) ∧ qW c lg' ∧ (∀ i', i' ≠ i → lg' i' = lg i') ∧ ∀ a, lg' i a = if j ≤ a ∧ a < m then none else lg i a := by
  intro n
  induction n with
  | zero =>
    intro j m lg hW h0 h1 h2 h3 h4 k hk
    obtain ⟨k, rfl⟩ : ∃ k', k = k' + 1 := ⟨k - 1, by omega⟩
    refine ⟨lg, ?_, hW, fun _ _ => rfl, fun a => by rw [if_neg (by omega)]⟩
    rw [fJx4a65c_clear_da8c8_27, jr_t (nI_le (by omega) (by omega))]
    rfl
  | succ n ih =>
    intro j m lg hW h0 h1 h2 h3 h4 k hk
    obtain ⟨k, rfl⟩ : ∃ k', k = k' + 1 := ⟨k - 1, by omega⟩
    by_cases hm : m ≤ j
    · refine ⟨lg, ?_, hW, fun _ _ => rfl, fun a => by rw [if_neg (by omega)]⟩
      rw [fJx4a65c_clear_da8c8_27, jr_t (nI_le (by omega) (by omega))]
      rfl
    · have ht : c.2.1 (c.1 7 i) = some (7, i) := h4.resolve_left hm
      have hW1 : qW c (va_up lg i (va_up (lg i) j none)) := hW.sub (fun j' a hj' => ⟨j', by
        by_cases e : j' = j
        · subst e
          simp [va_up] at hj'
        · simpa [va_up, e] using hj'⟩)
      obtain ⟨lg', e1, e2, e3, e4⟩ := ih (j + 1) m _ hW1 (by omega) (by omega) h2 h3 (Or.inr ht) k (by omega)
      refine ⟨lg', ?_, e2, fun i' hi' => by rw [e3 i' hi']; simp [va_up, hi'], fun a => ?_⟩
      · rw [fJx4a65c_clear_da8c8_27, jr_f (nI_ge (by omega) (by omega)), jr_wr (w7 hW ht (by omega) h3 rfl), nI_1]
        exact e1
      · rw [e4 a]
        by_cases e : a = j
        · subst e
          rw [if_neg (by omega), if_pos (by omega)]
          simp [va_up]
        · have h5 : va_up lg i (va_up (lg i) j none) i a = lg i a := by simp [va_up, e]
          rw [h5]
          by_cases h6 : j + 1 ≤ a ∧ a < m
          · rw [if_pos h6, if_pos (by omega)]
          · rw [if_neg h6, if_neg (by omega)]
theorem l_clear {i : Nat} {l : List Nat} (hW : qW c lg) (hi : i < 6) (h : LI c lg z i l) : ∃ lg' x, fJx4a65c_clear_da8c8 (c.1 6 i) (qE c lg z w) = some ((), qE c lg' (u2 (u2 z 9 i x) 20 i 0) w) ∧ qW c lg' ∧ (∀ i', i' ≠ i → lg' i' = lg i') ∧ LI c lg' (u2 (u2 z 9 i x) 20 i 0) i [] := by
  obtain ⟨a, b, d, e⟩ := id h
  have h4 : l.length ≤ 0 ∨ c.2.1 (c.1 7 i) = some (7, i) := by
    by_cases h0 : l.length ≤ 0
    · exact Or.inl h0
    · exact Or.inr (LI.t hW hi h (by omega))
  obtain ⟨lg', e1, e2, e3, e4⟩ := l_clr (c := c) (z := u2 (u2 z 9 i (z 9 i + 1)) 20 i 0) (w := w) hi l.length 0 l.length lg hW (by omega) (by omega) (by omega) e h4 4096 (by omega)
  refine ⟨lg', z 9 i + 1, ?_, e2, e3, by rw [u2_s]; rfl, fun j => ?_, Nat.zero_le _, e⟩
  · unfold fJx4a65c_clear_da8c8
    rw [jr_rd (rL hW hi).2.1, jr_wr (wL hW hi).1, jr_rd (rL hW hi).2.2.1, jr_rd (rL hW hi).2.2.2, jr_wr (wL hW hi).2]
    rw [u2_k (show (20 : Nat) ≠ 9 by decide), a]
    exact e1
  · rw [e4 j, b j]
    by_cases hj : j < l.length
    · rw [if_pos ⟨Nat.zero_le _, hj⟩]
      rfl
    · rw [if_neg (by omega), List.getElem?_eq_none (by omega)]
      rfl
/-- who lies in a list may lie in a row of Object -/
theorem l_fit {i j : Nat} {a : Nat} (hW : qW c lg) (hi : i < 6) (h : lg i j = some a) : jm_fit (qE c lg z w) 5 (some a) = true := by
  by_cases h5 : i < 5
  · have t := hW.2.2.2.2.2.1 i j a h5 h
    simp [jm_fit, qE_at t, cel]
  · have e : i = 5 := by omega
    subst e
    have t := hW.2.2.2.2.2.2 j a h
    simp [jm_fit, qE_at t, cel]
theorem l_fitO {i j : Nat} (hW : qW c lg) (hi : i < 6) : jm_fit (qE c lg z w) 5 (lg i j) = true := by
  cases h : lg i j with
  | none => rfl
  | some a => exact l_fit hW hi h
theorem nI_sub {a b : Nat} (h : b ≤ a) : nI a - nI b = nI (a - b) := by
  have e : nI a = nI (a - b) + nI b := by rw [nI_add]; congr 1; omega
  rw [e]
  exact Int32.add_sub_cancel _ _
theorem nI_sub1 {a : Nat} (h : 0 < a) : nI a - 1 = nI (a - 1) := nI_sub (b := 1) h
theorem l_remove {i j : Nat} {l : List Nat} (hW : qW c lg) (hi : i < 6) (h : LI c lg z i l) (hj : j < l.length) : ∃ lg' x, fJx4a65c_remove_915e3 (c.1 6 i) (nI j) (qE c lg z w) = some (l[j]?, qE c lg' (u2 (u2 z 9 i x) 20 i (nI (l.length - 1))) w) ∧ qW c lg' ∧ (∀ i', i' ≠ i → lg' i' = lg i') ∧ LI c lg' (u2 (u2 z 9 i x) 20 i (nI (l.length - 1))) i (l.eraseIdx j) := by
  obtain ⟨a, b, d, e⟩ := id h
  have ht := LI.t hW hi h (by omega)
  have h0 : fJx4a65c_remove_915e3 (c.1 6 i) (nI j) (qE c lg z w) = match fJx4a65c_fastRemove_b59b0 (c.1 6 i) (some (c.1 7 i)) (nI j) (qE c lg z w) with | none => none | some q => some (l[j]?, q.2) := by
    unfold fJx4a65c_remove_915e3
    rw [jr_rd (rL hW hi).2.2.2, a, jr_bd (l_idx hj (by omega)), jr_rd (rL hW hi).2.2.1, jr_rd (jr_gq ht rfl (by omega) (by omega)), b j, jr_rd (rL hW hi).1]
    unfold jm_bd
    cases fJx4a65c_fastRemove_b59b0 (c.1 6 i) (some (c.1 7 i)) (nI j) (qE c lg z w) <;> rfl
  have fin : ∀ (g : Nat → Option Nat) (hg : ∀ k, g k = (l.eraseIdx j)[k]?) (hW' : qW c (va_up lg i g)), LI c (va_up lg i g) (u2 (u2 z 9 i (z 9 i + 1)) 20 i (nI (l.length - 1))) i (l.eraseIdx j) := by
    intro g hg hW'
    have hlen : (l.eraseIdx j).length = l.length - 1 := List.length_eraseIdx_of_lt hj
    refine ⟨by rw [u2_s, hlen], fun k => ?_, by omega, e⟩
    simp only [va_up, if_true]
    exact hg k
  have hsub : ∀ g : Nat → Option Nat, (∀ k, g k = (l.eraseIdx j)[k]?) → qW c (va_up lg i g) := by
    intro g hg
    refine hW.sub (fun k x hx => ?_)
    rw [hg k] at hx
    have hm : x ∈ l := List.mem_of_mem_eraseIdx (List.mem_of_getElem? hx)
    obtain ⟨k', hk'⟩ := List.getElem?_of_mem hm
    exact ⟨k', by rw [b k']; exact hk'⟩
  by_cases hlast : l.length - 1 ≤ j
  · have ej : j = l.length - 1 := by omega
    let g : Nat → Option Nat := va_up (lg i) (l.length - 1) none
    have hg : ∀ k, g k = (l.eraseIdx j)[k]? := by
      intro k
      show va_up (lg i) (l.length - 1) none k = _
      rw [List.getElem?_eraseIdx]
      by_cases hk : k = l.length - 1
      · subst hk
        simp [va_up, ej]
        omega
      · simp only [va_up, if_neg hk, b k]
        by_cases hkj : k < j
        · rw [if_pos hkj]
        · rw [if_neg hkj, List.getElem?_eq_none (by omega), List.getElem?_eq_none (by omega)]
    refine ⟨va_up lg i g, z 9 i + 1, ?_, hsub g hg, fun i' hi' => by simp [va_up, hi'], fin g hg (hsub g hg)⟩
    rw [h0]
    unfold fJx4a65c_fastRemove_b59b0
    rw [jr_rd (rL hW hi).2.1, jr_wr (wL hW hi).1, jr_rd (rL hW hi).2.2.2, u2_k (show (20 : Nat) ≠ 9 by decide), a, nI_sub1 (by omega), jr_t (nI_le hlast (by omega)), jr_wr (wL hW hi).2, jr_wr (w7 hW ht (by omega) e rfl)]
    rfl
  · let g1 : Nat → Option Nat := va_cpy (lg i) (lg i) (j + 1) j (l.length - 1 - j)
    let g : Nat → Option Nat := va_up g1 (l.length - 1) none
    have hg1s : ∀ k x, g1 k = some x → ∃ k', lg i k' = some x := by
      intro k x hx
      by_cases hk : j ≤ k ∧ k < j + (l.length - 1 - j)
      · exact ⟨_, by rw [← hx]; exact (pk_cpy_in hk.1 hk.2).symm⟩
      · exact ⟨k, by rw [← hx]; exact (pk_cpy_out (by omega)).symm⟩
    have hW1 : qW c (va_up lg i g1) := hW.sub hg1s
    have hg : ∀ k, g k = (l.eraseIdx j)[k]? := by
      intro k
      show va_up g1 (l.length - 1) none k = _
      rw [List.getElem?_eraseIdx]
      by_cases hk : k = l.length - 1
      · subst hk
        rw [if_neg (by omega), List.getElem?_eq_none (by omega)]
        simp [va_up]
      · simp only [va_up, if_neg hk]
        by_cases hkj : k < j
        · rw [if_pos hkj]
          exact (pk_cpy_out (by omega)).trans (b k)
        · rw [if_neg hkj]
          by_cases hk2 : k < l.length - 1
          · refine (pk_cpy_in (by omega) (by omega)).trans ?_
            rw [b]
            congr 1
            omega
          · refine (pk_cpy_out (by omega)).trans ?_
            rw [b, List.getElem?_eq_none (by omega), List.getElem?_eq_none (by omega)]
    have hcp : jm_cp (some (c.1 7 i)) (nI (j + 1)) (some (c.1 7 i)) (nI j) (nI (l.length - 1 - j)) (qE c lg (u2 z 9 i (z 9 i + 1)) w) = some (qE c (va_up lg i g1) (u2 z 9 i (z 9 i + 1)) w) := by
      unfold jm_cp
      have haq := jr_aq (lg := lg) (z := u2 z 9 i (z 9 i + 1)) (w := w) ht rfl
      simp only [haq]
      rw [if_neg, if_pos, nI_clamp (by omega), nI_clamp (by omega), nI_clamp (by omega)]
      · rw [qE_set (lg' := va_up lg i g1) (z' := u2 z 9 i (z 9 i + 1)) (w' := w) hW ht (by simp only [cel, va_up, if_true]; rfl) (fun _ _ q => cel_lg q)]
      · rw [List.all_eq_true]
        exact fun _ _ => l_fitO hW hi
      · rw [nI_clamp (by omega), nI_clamp (by omega), nI_clamp (by omega)]
        rintro (q | q)
        · rcases q with q | q | q
          · exact nI_pos (by omega) q
          · exact nI_pos (by omega) q
          · exact nI_pos (by omega) q
        · omega
    refine ⟨va_up lg i g, z 9 i + 1, ?_, hsub g hg, fun i' hi' => by simp [va_up, hi'], fin g hg (hsub g hg)⟩
    rw [h0]
    unfold fJx4a65c_fastRemove_b59b0
    rw [jr_rd (rL hW hi).2.1, jr_wr (wL hW hi).1, jr_rd (rL hW hi).2.2.2, u2_k (show (20 : Nat) ≠ 9 by decide), a, nI_sub1 (by omega), jr_f (nI_ge (by omega) (by omega)), nI_1, nI_sub (by omega), jr_wr hcp, jr_wr (wL hW1 hi).2, jr_wr (w7 hW1 ht (by omega) e rfl)]
    simp only [va_up, if_true]
    have e7 : va_up (va_up lg i g1) i (va_up g1 (l.length - 1) none) = va_up lg i g := by
      funext k
      by_cases hk : k = i <;> simp [va_up, hk, g]
    rw [e7]
    rfl
/-! a list's row grows -/
/-- the addresses when list i gets a row of m places, the old one left behind -/
def cG (c : CX) (lg : LG) (i m : Nat) : CX := (fun k j => if k = 7 ∧ j = i then c.2.2.2.2.2.1 else c.1 k j, fun a => if a = c.2.2.2.2.2.1 then some (7, i) else if c.2.1 a = some (7, i) then some (99, a) else c.2.1 a, fun j => if j = i then m else c.2.2.1 j, c.2.2.2.1, fun a => if a = c.1 7 i then .inl (5, c.2.2.1 i, .inr (lg i)) else c.2.2.2.2.1 a, c.2.2.2.2.2.1 + 1, c.2.2.2.2.2.2.1 + m, c.2.2.2.2.2.2.2)
theorem cG_1 {i m k j : Nat} (h : ¬ (k = 7 ∧ j = i)) : (cG c lg i m).1 k j = c.1 k j := if_neg h
theorem cG_7 {i m : Nat} : (cG c lg i m).1 7 i = c.2.2.2.2.2.1 := if_pos ⟨rfl, rfl⟩
theorem cG_t {i m k j a : Nat} (hW : qW c lg) (h : c.2.1 a = some (k, j)) (hk : ¬ (k = 7 ∧ j = i)) : (cG c lg i m).2.1 a = some (k, j) := by
  have h1 := (hW.1 a _ h).1
  show (if a = c.2.2.2.2.2.1 then some (7, i) else if c.2.1 a = some (7, i) then some (99, a) else c.2.1 a) = _
  rw [if_neg (by omega), if_neg, h]
  rw [h]
  intro q
  exact hk (by simpa using q)
theorem qx_7 (i : Nat) : qx 7 i = false := by simp [qx]
theorem cG_W {i m : Nat} {g : Nat → Option Nat} (hW : qW c lg) (hi : i < 6) (hm : 0 < m) (hg : ∀ j a, g j = some a → ∃ j', lg i j' = some a) : qW (cG c lg i m) (va_up lg i g) := by
  obtain ⟨a1, a2, a3, a4, a5, a6, a7⟩ := id hW
  have W2 := hW.sub hg
  refine ⟨fun a q hq => ?_, fun a => ?_, fun k j hx => ?_, fun i' hi' => ?_, ?_, fun i' j a hi' hj => ?_, fun j a hj => ?_⟩
  · change (if a = c.2.2.2.2.2.1 then some (7, i) else if c.2.1 a = some (7, i) then some (99, a) else c.2.1 a) = some q at hq
    by_cases h1 : a = c.2.2.2.2.2.1
    · rw [if_pos h1] at hq
      cases hq
      refine ⟨by show a < c.2.2.2.2.2.1 + 1; omega, by rw [h1]; exact cG_7, by simp [qk, hi]⟩
    · rw [if_neg h1] at hq
      by_cases h2 : c.2.1 a = some (7, i)
      · rw [if_pos h2] at hq
        cases hq
        have h3 := (a1 a _ h2).1
        exact ⟨by show a < c.2.2.2.2.2.1 + 1; omega, (cG_1 (by simp)).trans (a2 a).2.2, by simp [qk]⟩
      · rw [if_neg h2] at hq
        obtain ⟨b1, b2, b3⟩ := a1 a q hq
        refine ⟨by show a < c.2.2.2.2.2.1 + 1; omega, ?_, b3⟩
        rw [cG_1, b2]
        rintro ⟨e1, e2⟩
        exact h2 (by rw [hq, ← e1, ← e2])
  · exact ⟨(cG_1 (by simp)).trans (a2 a).1, (cG_1 (by simp)).trans (a2 a).2.1, (cG_1 (by simp)).trans (a2 a).2.2⟩
  · have hk : ¬ (k = 7 ∧ j = i) := by
      rintro ⟨e1, -⟩
      rw [e1, qx_7] at hx
      cases hx
    rw [cG_1 hk]
    exact cG_t hW (a3 k j hx) hk
  · by_cases e : i' = i
    · subst e
      refine Or.inr ⟨by show 0 < (if i' = i' then m else _); rw [if_pos rfl]; exact hm, ?_⟩
      rw [cG_7]
      exact if_pos rfl
    · rcases a4 i' hi' with ⟨h1, h2⟩ | ⟨h1, h2⟩
      · refine Or.inl ⟨?_, (cG_1 (by simp [e])).trans h2⟩
        show (if i' = i then m else c.2.2.1 i') = 0
        rw [if_neg e, h1]
      · refine Or.inr ⟨?_, ?_⟩
        · show 0 < (if i' = i then m else c.2.2.1 i')
          rw [if_neg e]
          exact h1
        · rw [cG_1 (by simp [e])]
          exact cG_t hW h2 (by simp [e])
  · exact (cG_1 (by simp)).trans a5
  · exact cG_t hW (W2.2.2.2.2.2.1 i' j a hi' hj) (by simp)
  · exact cG_t hW (W2.2.2.2.2.2.2 j a hj) (by simp)
theorem cG_cel {i m k j : Nat} {g : Nat → Option Nat} (h6 : ¬ (k = 6 ∧ j = i)) (h7 : ¬ (k = 7 ∧ j = i)) (h9 : ¬ (k = 99 ∧ j = c.1 7 i)) : cel (cG c lg i m) (va_up lg i g) z w k j = cel c lg z w k j := by
  unfold cel
  split <;> simp only [cG] <;> first | rfl | skip
  all_goals (try simp)
  · intro q
    exact absurd ⟨rfl, q⟩ h6
  · have e : j ≠ i := fun q => h7 ⟨rfl, q⟩
    simp [e, va_up]
  · intro q
    exact absurd ⟨rfl, q⟩ h9
theorem qE_grow {i m : Nat} {g : Nat → Option Nat} (hW : qW c lg) (hi : i < 6) : (va_up (va_up (qE c lg z w).1 c.2.2.2.2.2.1 (some (.inl (5, m, .inr g)))) (c.1 6 i) (some (.inr (0, [.inl (z 9 i), .inr (some c.2.2.2.2.2.1), .inl (z 20 i)]))), c.2.2.2.2.2.1 + 1, c.2.2.2.2.2.2.1 + m, c.2.2.2.2.2.2.2) = qE (cG c lg i m) (va_up lg i g) z w := by
  refine Prod.ext ?_ rfl
  funext b
  have t6 := hW.t (qx6 hi)
  have n6 := (hW.1 _ _ t6).1
  show va_up (va_up (qM c lg z w) c.2.2.2.2.2.1 (some (.inl (5, m, .inr g)))) (c.1 6 i) (some (.inr (0, [.inl (z 9 i), .inr (some c.2.2.2.2.2.1), .inl (z 20 i)]))) b = qM (cG c lg i m) (va_up lg i g) z w b
  by_cases h6 : b = c.1 6 i
  · subst h6
    have e := cG_t (m := m) (i := i) hW t6 (by simp)
    simp only [va_up, if_true, qM, e, cel, cG_7]
  · by_cases hn : b = c.2.2.2.2.2.1
    · subst hn
      have e : (cG c lg i m).2.1 c.2.2.2.2.2.1 = some (7, i) := if_pos rfl
      simp only [va_up, if_true, if_neg h6, qM, e, cel, cG]
    · simp only [va_up, if_neg h6, if_neg hn, qM]
      have e0 : (cG c lg i m).2.1 b = if c.2.1 b = some (7, i) then some (99, b) else c.2.1 b := if_neg hn
      rw [e0]
      by_cases h7 : c.2.1 b = some (7, i)
      · rw [if_pos h7, h7]
        have hb := (hW.1 b _ h7).2.1
        simp only [cel, cG, hb, if_true]
      · rw [if_neg h7]
        cases hq : c.2.1 b with
        | none => rfl
        | some q =>
          have hb := (hW.1 b _ hq).2.1
          simp only
          rw [cG_cel]
          · rintro ⟨e1, e2⟩
            exact h6 (by rw [← hb, e1, e2])
          · rintro ⟨e1, e2⟩
            exact h7 (by rw [hq, ← e1, ← e2])
          · rintro ⟨e1, e2⟩
            rw [e1] at hb
            have h99 := (hW.2.1 q.2).2.2
            have hb2 : b = c.1 7 i := by rw [← hb, h99, e2]
            rcases hW.2.2.2.1 i hi with ⟨-, h3⟩ | ⟨-, h3⟩
            · have h4 := hW.t (show qx 14 0 = true from rfl)
              rw [hW.2.2.2.2.1, ← h3, ← hb2, hq] at h4
              have h5 := congrArg (fun o => (o.getD (0, 0)).1) h4
              simp only [Option.getD_some, e1] at h5
              exact absurd h5 (by decide)
            · exact h7 (by rw [hb2]; exact h3)
end LI
