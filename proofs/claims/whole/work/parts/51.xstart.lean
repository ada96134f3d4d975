/-! ===== the class starts anew ===== -/
def nnS (n : Nat) (n0 : NN) (j : Nat) : NN := fun k i => if (1 ≤ k ∧ k ≤ 4) ∧ i < j then (if k = 1 ∧ i < n then 1 else 0) else n0 k i
def loS (lo : Nat → List TX) (j : Nat) : Nat → List TX := fun i => if i < j then [] else lo i
def trS (tr : Nat → List ND) (j : Nat) : Nat → List ND := fun i => if i < j then [] else tr i
theorem loS_s (lo : Nat → List TX) (j : Nat) : va_up (loS lo j) j [] = loS lo (j + 1) := by
  funext i
  unfold va_up loS
  by_cases e : i = j
  · rw [if_pos e, if_pos (by omega)]
  · rw [if_neg e]
    by_cases h : i < j
    · rw [if_pos h, if_pos (by omega)]
    · rw [if_neg h, if_neg (by omega)]
theorem trS_s (tr : Nat → List ND) (j : Nat) : va_up (trS tr j) j [] = trS tr (j + 1) := by
  funext i
  unfold va_up trS
  by_cases e : i = j
  · rw [if_pos e, if_pos (by omega)]
  · rw [if_neg e]
    by_cases h : i < j
    · rw [if_pos h, if_pos (by omega)]
    · rw [if_neg h, if_neg (by omega)]
theorem nnS_s (n : Nat) (n0 : NN) (j : Nat) : n2 (n2 (n2 (n2 (nnS n n0 j) 1 j (if j < n then 1 else 0)) 2 j 0) 3 j 0) 4 j 0 = nnS n n0 (j + 1) := by
  funext k i
  by_cases e : i = j
  · subst e
    by_cases h4 : k = 4
    · subst h4; rw [n2_s]; simp [nnS]
    · rw [n2_k h4]
      by_cases h3 : k = 3
      · subst h3; rw [n2_s]; simp [nnS]
      · rw [n2_k h3]
        by_cases h2 : k = 2
        · subst h2; rw [n2_s]; simp [nnS]
        · rw [n2_k h2]
          by_cases h1 : k = 1
          · subst h1; rw [n2_s]; simp [nnS]
          · rw [n2_k h1]
            unfold nnS
            rw [if_neg (fun q => by omega), if_neg (fun q => by omega)]
  · have hn : ∀ (m : NN) (k' v : Nat), n2 m k' j v k i = m k i := fun m k' v => by unfold n2; rw [if_neg (fun q => e q.2)]
    rw [hn, hn, hn, hn]
    unfold nnS
    have h1 : (i < j + 1) = (i < j) := by simp; omega
    simp only [h1]
section XA
variable {c : CX} {lg : LG} {z w : ZZ} {nn : NN} {lo : Nat → List TX} {tr : Nat → List ND} {wt : List WT}
theorem RX.lclr {s : Nat} (w : ZZ) (h : RX c lg z nn lo tr wt) (hs : s < 5) : ∃ lg' z', fJx4a65c_clear_da8c8 (c.1 6 s) (qE c lg z w) = some ((), qE c lg' z' w) ∧ RX c lg' z' nn (va_up lo s []) tr wt := by
  obtain ⟨h1, h2, ⟨AL, a1, a2, a3⟩, h4⟩ := id h
  obtain ⟨lg', x, e1, e2, e3, e4⟩ := l_clear (w := w) h1 (show s < 6 by omega) (a1 s (by omega))
  exact ⟨lg', _, e1, h.ll hs e2 e3 CE.rfl e4⟩
theorem RX.wclr (w : ZZ) (h : RX c lg z nn lo tr wt) : ∃ lg' z', fJx4a65c_clear_da8c8 (c.1 6 5) (qE c lg z w) = some ((), qE c lg' z' w) ∧ RX c lg' z' nn lo tr [] := by
  obtain ⟨h1, h2, ⟨AL, a1, a2, a3⟩, h4⟩ := id h
  obtain ⟨lg', x, e1, e2, e3, e4⟩ := l_clear (w := w) h1 (show 5 < 6 by omega) (a1 5 (by omega))
  exact ⟨lg', _, e1, h.wl e2 e3 e4⟩
theorem x_sa1 {s b : Nat} (w : ZZ) (h : RX c lg z nn lo tr wt) (hs : s < 5) (hb : b = 0 ∨ b = 1) : ∃ lg' z', fX1_startAnew (c.1 2 s) (nI b) (qE c lg z w) = some ((), qE c lg' z' w) ∧ RX c lg' z' (n2 (n2 (n2 (n2 nn 1 s b) 2 s 0) 3 s 0) 4 s 0) (va_up lo s []) (va_up tr s []) wt := by
  obtain ⟨lg1, z1, e1, e2⟩ := h.lclr w hs
  obtain ⟨z2, f1, f2, f3, f4⟩ := x_clear (z := z1) (w := w) e2.1 (show s < 6 by omega)
  have hX1 : RX c lg1 z2 nn (va_up lo s []) (va_up tr s []) wt := by
    refine e2.tree (fun f hf => f2 f (by omega)) (fun i' h1 h2 m h3 => ?_) (by rw [slots_nil f4])
    unfold slot
    rw [f2 6 (by decide), f2 7 (by decide), f2 8 (by decide), f3 _ (by omega)]
  have hX2 := (((hX1.n (k := 1) (i := s) (v := b) (by simp [dX, hs])).n (k := 2) (i := s) (v := 0) (by simp [dX, hs])).n (k := 3) (i := s) (v := 0) (by simp [dX, hs])).n (k := 4) (i := s) (v := 0) (by simp [dX, hs])
  refine ⟨lg1, _, ?_, hX2⟩
  unfold fX1_startAnew
  have hzb : jm_z (nI b) (qE c lg1 z2 w) = some () := by
    rcases hb with q | q <;> subst q <;> rfl
  rw [sR2 h.1 _ _ _ _ hs, lO h.1 _ _ _ _ (by omega), jr_bd e1, sR1 e2.1 _ _ _ _ hs, tO e2.1 _ _ _ _ (by omega), jr_bd f1, jr_rd hzb, sP3 e2.1 _ _ _ _ _ hs, jZ0, sP4 e2.1 _ _ _ _ _ hs, sP5 e2.1 _ _ _ _ _ hs, sP6 e2.1 _ _ _ _ _ hs]
  rfl
/-- all numbers after startAnew -/
def nnR (nn : NN) (n : Nat) : NN := n2 (n2 (n2 (n2 (n2 (n2 (n2 (nnS n (n2 nn 0 4 n) 5) 0 5 0) 0 6 4294967288) 0 7 0) 0 8 0) 0 9 0) 0 10 0) 0 11 0
theorem x_sa_l {n : Nat} {n0 : NN} (w : ZZ) (hn : n ≤ 5) : ∀ m j (lg : LG) (z : ZZ), j + m = 5 → RX c lg z (nnS n n0 j) (loS lo j) (trS tr j) wt → ∀ f, m < f → ∃ lg' z', fX7_startAnew_16 f (c.1 0 0) (nI n) (some (c.1 1 0)) (nI 5) (nI j) (qE c lg z w) = some ((), qE c lg' z' w) ∧ RX c lg' z' (n2 (n2 (n2 (n2 (n2 (n2 (n2 (nnS n n0 5) 0 5 0) 0 6 4294967288) 0 7 0) 0 8 0) 0 9 0) 0 10 0) 0 11 0) (loS lo 5) (trS tr 5) [] := by
  intro m
  induction m with
  | zero =>
    intro j lg z hj h f hf
    obtain ⟨f, rfl⟩ : ∃ k', f = k' + 1 := ⟨f - 1, by omega⟩
    have e : j = 5 := by omega
    subst e
    have h1 := h.n (k := 0) (i := 5) (v := 0) rfl
    obtain ⟨lg1, z1, e1, e2⟩ := h1.wclr w
    have h3 := (((((e2.n (k := 0) (i := 6) (v := 4294967288) rfl).n (k := 0) (i := 7) (v := 0) rfl).n (k := 0) (i := 8) (v := 0) rfl).n (k := 0) (i := 9) (v := 0) rfl).n (k := 0) (i := 10) (v := 0) rfl).n (k := 0) (i := 11) (v := 0) rfl
    refine ⟨lg1, _, ?_, h3⟩
    have hd : fX6_dropAll (c.1 12 0) (qE c lg (u2 z 0 5 (nI 0)) w) = some ((), qE c lg1 z1 w) := by
      unfold fX6_dropAll
      rw [yR h1.1, lO h1.1 _ _ _ _ (by omega), jr_bd e1]; rfl
    rw [fX7_startAnew_16, jr_t (nI_le (by omega) (by omega)), xP5 h.1, xR2 h.1, yO h.1, jr_bd (show fX6_dropAll (c.1 12 0) (qE c lg (u2 z 0 5 0) w) = _ from hd), xP6n e2.1, xP7 e2.1, xP8 e2.1, xP9 e2.1, xP10 e2.1, xP11 e2.1]
    rfl
  | succ m ih =>
    intro j lg z hj h f hf
    obtain ⟨f, rfl⟩ : ∃ k', f = k' + 1 := ⟨f - 1, by omega⟩
    have hj5 : j < 5 := by omega
    obtain ⟨lg1, z1, e1, e2⟩ := x_sa1 (b := if j < n then 1 else 0) w h hj5 (by split <;> simp)
    rw [nnS_s, loS_s, trS_s] at e2
    obtain ⟨lg2, z2, f1, f2⟩ := ih (j + 1) lg1 z1 (by omega) e2 f (by omega)
    refine ⟨lg2, z2, ?_, f2⟩
    rw [fX7_startAnew_16, jr_f (nI_ge (by omega) (by omega)), xSg h.1 _ _ _ _ hj5, sI0 h.1 _ _ _ _ hj5]
    by_cases q : j < n
    · rw [if_pos q] at e1
      rw [jr_f (nI_ge q (by omega)), sO h.1 _ _ _ _ hj5, jr_bd (show fX1_startAnew (c.1 2 j) 1 (qE c lg z w) = _ from e1), nI_1]
      exact f1
    · rw [if_neg q] at e1
      rw [jr_t (nI_le (by omega) (by omega)), sO h.1 _ _ _ _ hj5, jr_bd (show fX1_startAnew (c.1 2 j) 0 (qE c lg z w) = _ from e1), nI_1]
      exact f1
theorem x_start {n : Nat} (w : ZZ) (h : RX c lg z nn lo tr wt) (hn : n ≤ 5) : ∃ lg' z', fX7_startAnew (c.1 0 0) (nI n) (qE c lg z w) = some ((), qE c lg' z' w) ∧ RX c lg' z' (nnR nn n) (loS lo 5) (trS tr 5) [] := by
  have h1 := h.n (k := 0) (i := 4) (v := n) rfl
  have hS : nnS n (n2 nn 0 4 n) 0 = n2 nn 0 4 n := by
    funext k i
    unfold nnS
    rw [if_neg (fun q => by omega)]
  have hl : loS lo 0 = lo := by
    funext i
    unfold loS
    rw [if_neg (by omega)]
  have ht : trS tr 0 = tr := by
    funext i
    unfold trS
    rw [if_neg (by omega)]
  obtain ⟨lg1, z1, e1, e2⟩ := x_sa_l (n0 := n2 nn 0 4 n) (lo := lo) (tr := tr) w hn 5 0 lg _ (by omega) (by rw [hS, hl, ht]; exact h1) 4096 (by omega)
  refine ⟨lg1, z1, ?_, e2⟩
  unfold fX7_startAnew
  rw [xP4 h.1, xR0 h.1, xSl h.1]
  exact e1
end XA
