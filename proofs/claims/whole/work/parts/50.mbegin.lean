/-! ===== the reference begins anew ===== -/
section MB
variable {c : CX} {lg : LG} {z w : ZZ}
theorem m_beg_e (hW : qW c lg) : ∀ n j (w : ZZ), j + n = 6 → ∀ f, n < f → ∃ w', fX8_begins_98 f (c.1 20 0) (nI j) (qE c lg z w) = some ((), qE c lg z w') ∧ (∀ f, f ≠ 23 → w' f = w f) ∧ (∀ i, i < j → w' 23 i = w 23 i) ∧ ∀ i, j ≤ i → i < 6 → w' 23 i = nI 0 := by
  intro n
  induction n with
  | zero =>
    intro j w hj f hf
    obtain ⟨f, rfl⟩ : ∃ k', f = k' + 1 := ⟨f - 1, by omega⟩
    refine ⟨w, ?_, fun _ _ => rfl, fun _ _ => rfl, fun i h1 h2 => by omega⟩
    rw [fX8_begins_98, jr_t (show (6 : Int32) ≤ nI j from nI_le (a := 6) (by omega) (by omega))]; rfl
  | succ n ih =>
    intro j w hj f hf
    obtain ⟨f, rfl⟩ : ∃ k', f = k' + 1 := ⟨f - 1, by omega⟩
    obtain ⟨w', e1, e2, e3, e4⟩ := ih (j + 1) (u2 w 23 j 0) (by omega) f (by omega)
    refine ⟨w', ?_, fun f hf => by rw [e2 f hf, u2_k hf], fun i hi => by rw [e3 i (by omega), u2_i (by omega)], fun i h1 h2 => ?_⟩
    · rw [fX8_begins_98, jr_f (show ¬ (6 : Int32) ≤ nI j from nI_ge (b := 6) (by omega) (by omega)), mR23 hW, mS23 hW _ _ _ _ _ (by omega), nI_1]
      exact e1
    · by_cases e : i = j
      · subst e
        rw [e3 i (by omega), u2_s]; rfl
      · exact e4 i (by omega) h2
theorem m_beg_s (hW : qW c lg) : ∀ n j (w : ZZ), j + n = 5 → ∀ f, n < f → ∃ w', fX8_begins_7 f (c.1 20 0) (nI j) (qE c lg z w) = (jm_wr (jm_p (some (c.1 20 0)) 9 5 (.inl (-8))) <| jm_wr (jm_p (some (c.1 20 0)) 9 6 (.inl 0)) <| jm_wr (jm_p (some (c.1 20 0)) 9 7 (.inl 0)) <| jm_wr (jm_p (some (c.1 20 0)) 9 8 (.inl 0)) <| jm_wr (jm_p (some (c.1 20 0)) 9 20 (.inl 0)) <| jm_wr (jm_p (some (c.1 20 0)) 9 22 (.inl 0)) <| jm_wr (jm_p (some (c.1 20 0)) 9 25 (.inl 0)) <| fX8_begins_98 4096 (c.1 20 0) 0) (qE c lg z w') ∧ (∀ f, ¬ (1 ≤ f ∧ f ≤ 4) → f ≠ 9 → f ≠ 15 → w' f = w f) ∧ (∀ f i, i < j → w' f i = w f i) ∧ ∀ i, j ≤ i → i < 5 → w' 1 i = nI 1 ∧ w' 2 i = nI 0 ∧ w' 3 i = nI 0 ∧ w' 4 i = nI 0 ∧ w' 9 i = nI 0 ∧ w' 15 i = nI 0 := by
  intro n
  induction n with
  | zero =>
    intro j w hj f hf
    obtain ⟨f, rfl⟩ : ∃ k', f = k' + 1 := ⟨f - 1, by omega⟩
    refine ⟨w, ?_, fun _ _ _ _ => rfl, fun _ _ _ => rfl, fun i h1 h2 => by omega⟩
    rw [fX8_begins_7, jr_t (show (5 : Int32) ≤ nI j from nI_le (a := 5) (by omega) (by omega))]
  | succ n ih =>
    intro j w hj f hf
    obtain ⟨f, rfl⟩ : ∃ k', f = k' + 1 := ⟨f - 1, by omega⟩
    have hj5 : j < 5 := by omega
    obtain ⟨w', e1, e2, e3, e4⟩ := ih (j + 1) (u2 (u2 (u2 (u2 (u2 (u2 w 1 j 1) 2 j 0) 3 j 0) 4 j 0) 9 j 0) 15 j 0) (by omega) f (by omega)
    refine ⟨w', ?_, fun f h1 h2 h3 => by rw [e2 f h1 h2 h3, u2_k (by omega), u2_k (by omega), u2_k (by omega), u2_k (by omega), u2_k (by omega), u2_k (by omega)], fun f i hi => ?_, fun i h1 h2 => ?_⟩
    · rw [fX8_begins_7, jr_f (show ¬ (5 : Int32) ≤ nI j from nI_ge (b := 5) (by omega) (by omega)), mR1 hW, jZ1, mS1 hW _ _ _ _ _ hj5, mR2 hW, jZ0, mS2 hW _ _ _ _ _ hj5, mR3 hW, mS3 hW _ _ _ _ _ hj5, mR4 hW, mS4 hW _ _ _ _ _ hj5, mR9 hW, mS9 hW _ _ _ _ _ hj5, mR15 hW, mS15 hW _ _ _ _ _ (by omega), nI_1]
      exact e1
    · have e : ∀ (w : ZZ) (k : Nat) (v : Int32), u2 w k j v f i = w f i := fun w k v => by unfold u2; rw [if_neg (fun q => by omega)]
      rw [e3 f i (by omega), e, e, e, e, e, e]
    · by_cases e : i = j
      · subst e
        simp only [e3 _ i (show i < i + 1 by omega)]
        refine ⟨?_, ?_, ?_, ?_, ?_, ?_⟩ <;> simp [u2] <;> rfl
      · exact e4 i (by omega) h2
/-- the reference after begins -/
theorem m_begins {n : Nat} {nn : NN} {lo : Nat → List TX} {tr : Nat → List ND} (hW : qW c lg) (h4 : nn 0 4 = n) (h6 : nn 0 6 = 4294967288) (h0 : nn 0 5 = 0 ∧ nn 0 7 = 0 ∧ nn 0 8 = 0 ∧ nn 0 9 = 0 ∧ nn 0 10 = 0 ∧ nn 0 11 = 0) (h1 : ∀ i, i < n → nn 1 i = 1) (h2 : ∀ i, i < 5 → nn 2 i = 0 ∧ nn 3 i = 0 ∧ nn 4 i = 0) (hlo : ∀ i, i < 5 → lo i = []) (htr : ∀ i, i < 5 → tr i = []) (hr : ∀ j, j < 48 → w 24 j = nI (nn 11 j)) : ∃ w', fX8_begins (c.1 20 0) (nI n) (qE c lg z w) = some ((), qE c lg z w') ∧ RM w' nn lo tr [] := by
  obtain ⟨w1, e1, e2, e3, e4⟩ := m_beg_s (z := z) hW 5 0 (u2 w 0 0 (nI n)) (by omega) 4096 (by omega)
  obtain ⟨w2, f1, f2, f3, f4⟩ := m_beg_e (z := z) hW 6 0 (u2 (u2 (u2 (u2 (u2 (u2 (u2 w1 5 0 (-8)) 6 0 0) 7 0 0) 8 0 0) 20 0 0) 22 0 0) 25 0 0) (by omega) 4096 (by omega)
  obtain ⟨z5, z7, z8, z9, z10, z11⟩ := h0
  have hz : ∀ f, f ≠ 23 → f ≠ 5 → f ≠ 6 → f ≠ 7 → f ≠ 8 → f ≠ 20 → f ≠ 22 → f ≠ 25 → w2 f = w1 f := fun f a1 a2 a3 a4 a5 a6 a7 a8 => by rw [f2 f a1, u2_k a8, u2_k a7, u2_k a6, u2_k a5, u2_k a4, u2_k a3, u2_k a2]
  refine ⟨w2, ?_, ⟨⟨?_, ?_, ?_, ?_, ?_, ?_, ?_⟩, fun i hi => ?_⟩, fun i hi => ?_, fun i hi => ?_, ⟨?_, fun j v hj => by simp at hj⟩, ⟨fun k hk => ?_, fun j hj => ?_⟩, ⟨[], by rw [z11]; rfl, by rw [z11]; omega, fun a ha => by simp at ha, by rw [z10]; rfl, fun j a ha => by simp at ha⟩⟩
  · unfold fX8_begins
    rw [mP0 hW]
    refine (show fX8_begins_7 4096 (c.1 20 0) 0 (qE c lg z (u2 w 0 0 (nI n))) = _ from e1).trans ?_
    rw [mP5 hW, mP6 hW, mP7 hW, mP8 hW, mP20 hW, mP22 hW, mP25 hW]
    exact f1
  · rw [hz 0 (by decide) (by decide) (by decide) (by decide) (by decide) (by decide) (by decide) (by decide), e2 0 (by decide) (by decide) (by decide), u2_s, h4]
  · rw [f2 5 (by decide), h6, ← m8_]; simp [u2]
  · rw [f2 6 (by decide), z7]; simp [u2]; rfl
  · rw [f2 7 (by decide), z8]; simp [u2]; rfl
  · rw [f2 8 (by decide), z9]; simp [u2]; rfl
  · rw [f2 20 (by decide), z11]; simp [u2]; rfl
  · rw [f2 22 (by decide), z5]; simp [u2]; rfl
  · obtain ⟨a1, a2, a3, a4, a5, a6⟩ := e4 i (by omega) hi
    obtain ⟨b2, b3, b4⟩ := h2 i hi
    rw [hz 1 (by decide) (by decide) (by decide) (by decide) (by decide) (by decide) (by decide) (by decide), hz 2 (by decide) (by decide) (by decide) (by decide) (by decide) (by decide) (by decide) (by decide), hz 3 (by decide) (by decide) (by decide) (by decide) (by decide) (by decide) (by decide) (by decide), hz 4 (by decide) (by decide) (by decide) (by decide) (by decide) (by decide) (by decide) (by decide), a1, a2, a3, a4, b2, b3, b4]
    exact ⟨fun q => by rw [h1 i (by omega)], rfl, rfl, rfl⟩
  · rw [hlo i hi]
    refine ⟨?_, fun j x hj => by simp at hj⟩
    rw [hz 9 (by decide) (by decide) (by decide) (by decide) (by decide) (by decide) (by decide) (by decide), (e4 i (by omega) hi).2.2.2.2.1]
    rfl
  · rw [htr i hi]
    refine ⟨[], List.Perm.refl _, ?_, fun j x hj => by simp at hj⟩
    rw [hz 15 (by decide) (by decide) (by decide) (by decide) (by decide) (by decide) (by decide) (by decide), (e4 i (by omega) hi).2.2.2.2.2]
    rfl
  · rw [f2 25 (by decide), u2_s]; rfl
  · rw [f4 k (by omega) hk, z5, if_neg (by omega)]
  · rw [hz 24 (by decide) (by decide) (by decide) (by decide) (by decide) (by decide) (by decide) (by decide), e2 24 (by decide) (by decide) (by decide), u2_k (by decide)]
    exact hr j hj
end MB
