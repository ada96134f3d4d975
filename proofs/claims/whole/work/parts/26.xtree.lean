/-! ===== the class's trees ===== -/
section XT
variable {c : CX} {lg : LG} {z w : ZZ}
theorem x_parent {p : Nat} {S : jm_S} (h : p < 4096) : fX7_parentOf (nI p) S = some (nI (p / 8), S) := by
  unfold fX7_parentOf
  rw [pk_shrN (k := 3) (by omega) _ (by decide)]
  rfl
theorem x_shl {p : Nat} (h : p < 4096) : nI p <<< ((3 : Int32) &&& 31) = nI (p * 8) := pk_shlN _ 3 (by decide) (by omega)
theorem x_rank_4 {p j k : Nat} {S : jm_S} (hp : p < 4096) (hj : 1 ≤ j) (hj4 : j ≤ 4) : fX7_rankOf_4 (k + 1) (nI p) (nI j) S = if j = 4 ∨ 512 ≤ p then some (nI p, S) else fX7_rankOf_4 k (nI (p * 8)) (nI (j + 1)) S := by
  rw [fX7_rankOf_4]
  by_cases h4 : j = 4
  · subst h4
    rw [if_pos (Or.inl rfl), jr_t (show (4 : Int32) ≤ nI 4 from by decide +kernel)]
    rfl
  · rw [jr_f (show ¬ (4 : Int32) ≤ nI j from nI_ge (b := 4) (by omega) (by omega))]
    by_cases h5 : 512 ≤ p
    · rw [if_pos (Or.inr h5), jr_t (show (512 : Int32) ≤ nI p from nI_le (a := 512) (by omega) (by omega))]
      rfl
    · rw [jr_f (show ¬ (512 : Int32) ≤ nI p from nI_ge (b := 512) (by omega) (by omega)), if_neg (by omega), x_shl hp, nI_1]
theorem x_rank {p : Nat} {S : jm_S} (h : p < 4096) : fX7_rankOf (nI p) S = some (nI (rk p), S) := by
  show fX7_rankOf_4 (4092 + 4) (nI p) (nI 1) S = _
  rw [x_rank_4 h (by omega) (by omega)]
  unfold rk
  by_cases h1 : 512 ≤ p
  · rw [if_pos (Or.inr h1), if_neg (by omega), if_neg (by omega), if_neg (by omega)]
  · rw [if_neg (by omega), x_rank_4 (by omega) (by omega) (by omega)]
    by_cases h2 : 64 ≤ p
    · rw [if_pos (Or.inr (by omega)), if_neg (by omega), if_neg (by omega), if_pos (by omega)]
    · rw [if_neg (by omega), x_rank_4 (by omega) (by omega) (by omega)]
      by_cases h3 : 8 ≤ p
      · rw [if_pos (Or.inr (by omega)), if_neg (by omega), if_pos (by omega), show p * 8 * 8 = p * 64 by omega]
      · rw [if_neg (by omega), x_rank_4 (by omega) (by omega) (by omega), if_pos (Or.inl rfl), if_pos (by omega), show p * 8 * 8 * 8 = p * 512 by omega]
theorem x_find_l {i : Nat} {x : Int32} (hW : qW c lg) (hi : i < 6) : ∀ n j, j + n = 12 → ∀ k, n < k → ∃ r, fX4_find_11 k x (some (c.1 4 i)) (nI 12) (nI j) (qE c lg z w) = some (r, qE c lg z w) ∧ ((r = none ∧ ∀ m, j ≤ m → m < 12 → z 5 (12 * i + m) ≠ x) ∨ ∃ m, j ≤ m ∧ m < 12 ∧ r = some (c.1 5 (12 * i + m)) ∧ z 5 (12 * i + m) = x) := by
  intro n
  induction n with
  | zero =>
    intro j hj k hk
    obtain ⟨k, rfl⟩ : ∃ k', k = k' + 1 := ⟨k - 1, by omega⟩
    refine ⟨none, ?_, Or.inl ⟨rfl, fun m _ _ => by omega⟩⟩
    rw [fX4_find_11, jr_t (nI_le (by omega) (by omega))]
    rfl
  | succ n ih =>
    intro j hj k hk
    obtain ⟨k, rfl⟩ : ∃ k', k = k' + 1 := ⟨k - 1, by omega⟩
    rw [fX4_find_11, jr_f (nI_ge (by omega) (by omega)), tG hW _ _ _ _ _ hi (by omega), nI0_ hW _ _ _ _ (by omega)]
    by_cases hx : z 5 (12 * i + j) = x
    · rw [jr_t hx]
      exact ⟨_, rfl, Or.inr ⟨j, Nat.le_refl _, by omega, rfl, hx⟩⟩
    · rw [jr_f hx, nI_1]
      obtain ⟨r, e1, e2⟩ := ih (j + 1) (by omega) k (by omega)
      refine ⟨r, e1, ?_⟩
      rcases e2 with ⟨e2, e3⟩ | ⟨m, e2, e3, e4, e5⟩
      · refine Or.inl ⟨e2, fun m hm hm2 => ?_⟩
        by_cases hjm : m = j
        · rw [hjm]; exact hx
        · exact e3 m (by omega) hm2
      · exact Or.inr ⟨m, by omega, e3, e4, e5⟩
theorem x_find0 {i : Nat} {x : Int32} (hW : qW c lg) (hi : i < 6) : ∃ r, fX4_find (c.1 3 i) x (qE c lg z w) = some (r, qE c lg z w) ∧ ((r = none ∧ ∀ m, m < 12 → z 5 (12 * i + m) ≠ x) ∨ ∃ m, m < 12 ∧ r = some (c.1 5 (12 * i + m)) ∧ z 5 (12 * i + m) = x) := by
  obtain ⟨r, e1, e2⟩ := x_find_l (z := z) (w := w) (x := x) hW hi 12 0 (by omega) 4096 (by omega)
  refine ⟨r, ?_, ?_⟩
  · unfold fX4_find
    rw [tR1 hW _ _ _ _ hi, tL hW _ _ _ _ hi]
    exact e1
  · rcases e2 with ⟨e2, e3⟩ | ⟨m, _, e3, e4, e5⟩
    · exact Or.inl ⟨e2, fun m hm => e3 m (by omega) hm⟩
    · exact Or.inr ⟨m, e3, e4, e5⟩
/-! slots and their list -/
theorem sl_s (i j n : Nat) : sl z i j (n + 1) = (match slot z (12 * i + j) with | none => sl z i (j + 1) n | some nd => nd :: sl z i (j + 1) n) := by
  unfold sl
  rw [List.range'_succ, List.filterMap_cons]
  cases slot z (12 * i + j) <;> rfl
theorem sl_mem {i j n : Nat} {nd : ND} : nd ∈ sl z i j n ↔ ∃ m, j ≤ m ∧ m < j + n ∧ slot z (12 * i + m) = some nd := by
  unfold sl
  rw [List.mem_filterMap]
  constructor
  · rintro ⟨m, h1, h2⟩
    rw [List.mem_range'] at h1
    obtain ⟨q, h3, h4⟩ := h1
    exact ⟨m, by omega, by omega, h2⟩
  · rintro ⟨m, h1, h2, h3⟩
    exact ⟨m, List.mem_range'.mpr ⟨m - j, by omega, by omega⟩, h3⟩
theorem slots_mem {i : Nat} {nd : ND} : nd ∈ slots z i ↔ ∃ m, m < 12 ∧ slot z (12 * i + m) = some nd := by
  unfold slots
  rw [sl_mem]
  constructor
  · rintro ⟨m, _, h2, h3⟩
    exact ⟨m, by omega, h3⟩
  · rintro ⟨m, h2, h3⟩
    exact ⟨m, by omega, by omega, h3⟩
theorem slot_some {j : Nat} {nd : ND} (h : slot z j = some nd) : z 5 j = nI nd.1 ∧ z 6 j = nI nd.2.1 ∧ z 7 j = nI nd.2.2.1 ∧ z 8 j = nI nd.2.2.2 ∧ z 5 j ≠ -1 := by
  unfold slot at h
  split at h
  · cases h
  · next hq =>
    cases h
    exact ⟨(nI_un _).symm, (nI_un _).symm, (nI_un _).symm, (nI_un _).symm, hq⟩
theorem slot_none {j : Nat} (h : slot z j = none) : z 5 j = -1 := by
  unfold slot at h
  split at h
  · assumption
  · cases h
/-- one slot aside, the rest -/
theorem sl_out {z z' : ZZ} {i m j n : Nat} (hm : m < j ∨ j + n ≤ m) (h : ∀ k, j ≤ k → k < j + n → slot z' (12 * i + k) = slot z (12 * i + k)) : sl z' i j n = sl z i j n := by
  induction n generalizing j with
  | zero => rfl
  | succ n ih =>
    rw [sl_s, sl_s, h j (by omega) (by omega), ih (by omega) (fun k h1 h2 => h k (by omega) (by omega))]
theorem sl_same {z z' : ZZ} {i j n : Nat} (h : ∀ k, j ≤ k → k < j + n → slot z' (12 * i + k) = slot z (12 * i + k)) : sl z' i j n = sl z i j n := by
  induction n generalizing j with
  | zero => rfl
  | succ n ih =>
    rw [sl_s, sl_s, h j (by omega) (by omega), ih (fun k h1 h2 => h k (by omega) (by omega))]
/-- slot m set aside -/
theorem sl_one {z z' : ZZ} {i m : Nat} {nd : ND} : ∀ n j, j ≤ m → m < j + n → (∀ k, j ≤ k → k < j + n → k ≠ m → slot z' (12 * i + k) = slot z (12 * i + k)) → slot z (12 * i + m) = none → slot z' (12 * i + m) = some nd → (sl z' i j n).Perm (nd :: sl z i j n) := by
  intro n
  induction n with
  | zero => intro j h1 h2; omega
  | succ n ih =>
    intro j h1 h2 h3 h4 h5
    rw [sl_s, sl_s]
    by_cases hm : j = m
    · subst hm
      rw [h4, h5]
      simp only
      rw [sl_same (z := z) (z' := z') (fun k q1 q2 => h3 k (by omega) (by omega) (by omega))]
    · have e := ih (j + 1) (by omega) (by omega) (fun k q1 q2 q3 => h3 k (by omega) (by omega) q3) h4 h5
      rw [h3 j (by omega) (by omega) hm]
      cases slot z (12 * i + j) with
      | none => exact e
      | some x => exact (e.cons x).trans (List.Perm.swap nd x _)
theorem slots_one {z z' : ZZ} {i m : Nat} {nd : ND} (hm : m < 12) (h : ∀ k, k < 12 → k ≠ m → slot z' (12 * i + k) = slot z (12 * i + k)) (h4 : slot z (12 * i + m) = none) (h5 : slot z' (12 * i + m) = some nd) : (slots z' i).Perm (nd :: slots z i) :=
  sl_one 12 0 (by omega) (by omega) (fun k _ h2 h3 => h k (by omega) h3) h4 h5
/-- the number of nodes -/
theorem x_size_l {i : Nat} (hW : qW c lg) (hi : i < 6) : ∀ n j a, j + n = 12 → ∀ k, n < k → fX4_size_13 k (nI a) (some (c.1 4 i)) (nI 12) (nI j) (qE c lg z w) = some (nI (a + (sl z i j n).length), qE c lg z w) := by
  intro n
  induction n with
  | zero =>
    intro j a hj k hk
    obtain ⟨k, rfl⟩ : ∃ k', k = k' + 1 := ⟨k - 1, by omega⟩
    rw [fX4_size_13, jr_t (nI_le (by omega) (by omega))]
    rfl
  | succ n ih =>
    intro j a hj k hk
    obtain ⟨k, rfl⟩ : ∃ k', k = k' + 1 := ⟨k - 1, by omega⟩
    rw [fX4_size_13, jr_f (nI_ge (by omega) (by omega)), tG hW _ _ _ _ _ hi (by omega), nI0_ hW _ _ _ _ (by omega), sl_s]
    cases hs : slot z (12 * i + j) with
    | none => rw [jr_t (slot_none hs), nI_1, ih (j + 1) a (by omega) k (by omega)]
    | some nd => rw [jr_f (slot_some hs).2.2.2.2, nI_1, nI_1, ih (j + 1) (a + 1) (by omega) k (by omega)]; simp only [List.length_cons]; congr 3; omega
theorem x_size {i : Nat} (hW : qW c lg) (hi : i < 6) : fX4_size (c.1 3 i) (qE c lg z w) = some (nI (slots z i).length, qE c lg z w) := by
  unfold fX4_size
  rw [tR1 hW _ _ _ _ hi, tL hW _ _ _ _ hi]
  have e := x_size_l (z := z) (w := w) hW hi 12 0 0 (by omega) 4096 (by omega)
  rw [Nat.zero_add] at e
  exact e
theorem x_child_l {i p : Nat} (hW : qW c lg) (hi : i < 6) (hp : p < 4096) (hv : ∀ nd, nd ∈ slots z i → nd.1 < 4096) : ∀ n j a, j + n = 12 → ∀ k, n < k → fX4_countChildren_14 k (nI p) (nI a) (some (c.1 4 i)) (nI 12) (nI j) (qE c lg z w) = some (nI (a + (sl z i j n).countP (fun nd => nd.1 / 8 == p)), qE c lg z w) := by
  intro n
  induction n with
  | zero =>
    intro j a hj k hk
    obtain ⟨k, rfl⟩ : ∃ k', k = k' + 1 := ⟨k - 1, by omega⟩
    rw [fX4_countChildren_14, jr_t (nI_le (by omega) (by omega))]
    rfl
  | succ n ih =>
    intro j a hj k hk
    obtain ⟨k, rfl⟩ : ∃ k', k = k' + 1 := ⟨k - 1, by omega⟩
    rw [fX4_countChildren_14, jr_f (nI_ge (by omega) (by omega)), tG hW _ _ _ _ _ hi (by omega), nI0_ hW _ _ _ _ (by omega), sl_s]
    cases hs : slot z (12 * i + j) with
    | none => rw [jr_t (slot_none hs), nI_1, ih (j + 1) a (by omega) k (by omega)]
    | some nd =>
      have h1 := hv nd (slots_mem.mpr ⟨j, by omega, hs⟩)
      rw [jr_f (slot_some hs).2.2.2.2, nI0_ hW _ _ _ _ (by omega), (slot_some hs).1, jr_bd (x_parent h1)]
      simp only [List.countP_cons]
      by_cases hq : nd.1 / 8 = p
      · rw [jr_t (by rw [hq]), nI_1, nI_1, ih (j + 1) (a + 1) (by omega) k (by omega), if_pos (by simp [hq])]
        congr 3
        omega
      · rw [jr_f (fun e => hq ((nI_eq (by omega) (by omega)).mp e)), nI_1, ih (j + 1) a (by omega) k (by omega), if_neg (by simp [hq])]
        rfl
theorem x_child {i p : Nat} (hW : qW c lg) (hi : i < 6) (hp : p < 4096) (hv : ∀ nd, nd ∈ slots z i → nd.1 < 4096) : fX4_countChildren (c.1 3 i) (nI p) (qE c lg z w) = some (nI ((slots z i).countP (fun nd => nd.1 / 8 == p)), qE c lg z w) := by
  unfold fX4_countChildren
  rw [tR1 hW _ _ _ _ hi, tL hW _ _ _ _ hi]
  have e := x_child_l (z := z) (w := w) hW hi hp hv 12 0 0 (by omega) 4096 (by omega)
  rw [Nat.zero_add] at e
  exact e
/-- the first node of a session among the slots below j -/
def fB (c : CX) (z : ZZ) (i ses j : Nat) (r : Option Nat) : Prop := (r = none ∧ ∀ m nd, m < j → slot z (12 * i + m) = some nd → nd.2.2.2 ≠ ses) ∨ ∃ m nd, m < j ∧ r = some (c.1 5 (12 * i + m)) ∧ slot z (12 * i + m) = some nd ∧ nd.2.2.2 = ses ∧ ∀ m' nd', m' < j → slot z (12 * i + m') = some nd' → nd'.2.2.2 = ses → rk nd.1 ≤ rk nd'.1
theorem rk_b {p : Nat} (h : p < 4096) : rk p < 4096 := by
  unfold rk
  split
  · omega
  · split
    · omega
    · split <;> omega
theorem x_first_l {i ses : Nat} (hW : qW c lg) (hi : i < 6) (hses : ses < 2 ^ 32) (hv : ∀ nd, nd ∈ slots z i → nd.1 < 4096 ∧ nd.2.2.2 < 2 ^ 32) : ∀ n j r, j + n = 12 → fB c z i ses j r → ∀ k, n < k → ∃ r', fX4_firstNodeOf_14 k (nI ses) r (some (c.1 4 i)) (nI 12) (nI j) (qE c lg z w) = some (r', qE c lg z w) ∧ fB c z i ses 12 r' := by
  intro n
  induction n with
  | zero =>
    intro j r hj hB k hk
    obtain ⟨k, rfl⟩ : ∃ k', k = k' + 1 := ⟨k - 1, by omega⟩
    rw [fX4_firstNodeOf_14, jr_t (nI_le (by omega) (by omega))]
    exact ⟨r, rfl, by rw [show (12 : Nat) = j by omega]; exact hB⟩
  | succ n ih =>
    intro j r hj hB k hk
    obtain ⟨k, rfl⟩ : ∃ k', k = k' + 1 := ⟨k - 1, by omega⟩
    rw [fX4_firstNodeOf_14, jr_f (nI_ge (by omega) (by omega)), tG hW _ _ _ _ _ hi (by omega), nI0_ hW _ _ _ _ (by omega)]
    have keep : (∀ nd, slot z (12 * i + j) = some nd → nd.2.2.2 = ses → ∃ m0 nd0, m0 < j ∧ r = some (c.1 5 (12 * i + m0)) ∧ slot z (12 * i + m0) = some nd0 ∧ rk nd0.1 ≤ rk nd.1 ∧ nd0.2.2.2 = ses ∧ ∀ m' nd', m' < j → slot z (12 * i + m') = some nd' → nd'.2.2.2 = ses → rk nd0.1 ≤ rk nd'.1) → fB c z i ses (j + 1) r := by
      intro hq
      rcases hB with ⟨b1, b2⟩ | ⟨m, nd, b1, b2, b3, b4, b5⟩
      · refine Or.inl ⟨b1, fun m nd hm hs => ?_⟩
        by_cases hmj : m = j
        · subst hmj
          intro e
          obtain ⟨m0, nd0, _, q2, _⟩ := hq nd hs e
          rw [b1] at q2
          cases q2
        · exact b2 m nd (by omega) hs
      · by_cases hex : ∃ nd', slot z (12 * i + j) = some nd' ∧ nd'.2.2.2 = ses
        · obtain ⟨nd', h1, h2⟩ := hex
          obtain ⟨m0, nd0, q1, q2, q3, q4, q5, q6⟩ := hq nd' h1 h2
          refine Or.inr ⟨m0, nd0, by omega, q2, q3, q5, fun m' nd'' h3 h4 h5 => ?_⟩
          by_cases hmj : m' = j
          · subst hmj
            rw [h1] at h4
            cases h4
            exact q4
          · exact q6 m' nd'' (by omega) h4 h5
        · refine Or.inr ⟨m, nd, by omega, b2, b3, b4, fun m' nd'' h3 h4 h5 => ?_⟩
          by_cases hmj : m' = j
          · subst hmj
            exact absurd ⟨nd'', h4, h5⟩ hex
          · exact b5 m' nd'' (by omega) h4 h5
    cases hs : slot z (12 * i + j) with
    | none =>
      rw [jr_t (slot_none hs), nI_1]
      exact ih (j + 1) r (by omega) (keep (fun nd h => by rw [hs] at h; cases h)) k (by omega)
    | some nd =>
      have h1 := hv nd (slots_mem.mpr ⟨j, by omega, hs⟩)
      obtain ⟨s5, s6, s7, s8, s9⟩ := slot_some hs
      rw [jr_f s9, nI3_ hW _ _ _ _ (by omega), s8]
      by_cases ho : nd.2.2.2 = ses
      · rw [jr_t (by rw [ho])]
        have newB : (∀ m' nd', m' < j → slot z (12 * i + m') = some nd' → nd'.2.2.2 = ses → rk nd.1 ≤ rk nd'.1) → fB c z i ses (j + 1) (some (c.1 5 (12 * i + j))) := by
          intro hq
          refine Or.inr ⟨j, nd, by omega, rfl, hs, ho, fun m' nd' h3 h4 h5 => ?_⟩
          by_cases hmj : m' = j
          · subst hmj
            rw [hs] at h4
            cases h4
            exact Nat.le_refl _
          · exact hq m' nd' (by omega) h4 h5
        rcases id hB with ⟨b1, b2⟩ | ⟨m, nd0, b1, b2, b3, b4, b5⟩
        · rw [jr_t b1, nI_1]
          exact ih (j + 1) _ (by omega) (newB (fun m' nd' h3 h4 h5 => absurd h5 (b2 m' nd' h3 h4))) k (by omega)
        · have h2 := hv nd0 (slots_mem.mpr ⟨m, by omega, b3⟩)
          rw [jr_f (by rw [b2]; simp), nI0_ hW _ _ _ _ (by omega), s5, jr_bd (x_rank h1.1), b2, nI0_ hW _ _ _ _ (by omega), (slot_some b3).1, jr_bd (x_rank h2.1)]
          have r1 := rk_b h1.1
          have r2 := rk_b h2.1
          by_cases hle : rk nd0.1 ≤ rk nd.1
          · rw [jr_t (nI_le hle (by omega)), nI_1]
            refine ih (j + 1) _ (by omega) ?_ k (by omega)
            rw [← b2]
            exact keep (fun nd' h3 h4 => ⟨m, nd0, b1, b2, b3, by rw [hs] at h3; cases h3; exact hle, b4, b5⟩)
          · rw [jr_f (nI_ge (by omega) (by omega)), nI_1]
            exact ih (j + 1) _ (by omega) (newB (fun m' nd' h3 h4 h5 => Nat.le_trans (by omega) (b5 m' nd' h3 h4 h5))) k (by omega)
      · rw [jr_f (fun e => ho ((nI_inj h1.2 hses).mp e)), nI_1]
        exact ih (j + 1) r (by omega) (keep (fun nd' h3 h4 => by rw [hs] at h3; cases h3; exact absurd h4 ho)) k (by omega)
theorem x_first {i ses : Nat} (hW : qW c lg) (hi : i < 6) (hses : ses < 2 ^ 32) (hv : ∀ nd, nd ∈ slots z i → nd.1 < 4096 ∧ nd.2.2.2 < 2 ^ 32) : ∃ r', fX4_firstNodeOf (c.1 3 i) (nI ses) (qE c lg z w) = some (r', qE c lg z w) ∧ fB c z i ses 12 r' := by
  obtain ⟨r, e1, e2⟩ := x_first_l (z := z) (w := w) hW hi hses hv 12 0 none (by omega) (Or.inl ⟨rfl, fun m nd h => by omega⟩) 4096 (by omega)
  refine ⟨r, ?_, e2⟩
  unfold fX4_firstNodeOf
  rw [tR1 hW _ _ _ _ hi, tL hW _ _ _ _ hi]
  exact e1
theorem x_clear_l {i : Nat} (hW : qW c lg) (hi : i < 6) : ∀ n j (z : ZZ), j + n = 12 → ∀ k, n < k → ∃ z', fX4_clear_10 k (some (c.1 4 i)) (nI 12) (nI j) (qE c lg z w) = some ((), qE c lg z' w) ∧ (∀ f, f ≠ 5 → z' f = z f) ∧ (∀ q, ¬ (12 * i + j ≤ q ∧ q < 12 * i + 12) → z' 5 q = z 5 q) ∧ ∀ m, j ≤ m → m < 12 → z' 5 (12 * i + m) = -1 := by
  intro n
  induction n with
  | zero =>
    intro j z hj k hk
    obtain ⟨k, rfl⟩ : ∃ k', k = k' + 1 := ⟨k - 1, by omega⟩
    refine ⟨z, ?_, fun _ _ => rfl, fun _ _ => rfl, fun m _ _ => by omega⟩
    rw [fX4_clear_10, jr_t (nI_le (by omega) (by omega))]
    rfl
  | succ n ih =>
    intro j z hj k hk
    obtain ⟨k, rfl⟩ : ∃ k', k = k' + 1 := ⟨k - 1, by omega⟩
    obtain ⟨z', e1, e2, e3, e4⟩ := ih (j + 1) (u2 z 5 (12 * i + j) (-1)) (by omega) k (by omega)
    refine ⟨z', ?_, fun f hf => by rw [e2 f hf, u2_k hf], fun q hq => by rw [e3 q (by omega), u2_i (by omega)], fun m h1 h2 => ?_⟩
    · rw [fX4_clear_10, jr_f (nI_ge (by omega) (by omega)), tG hW _ _ _ _ _ hi (by omega), nP0 hW _ _ _ _ _ (by omega), nI_1]
      exact e1
    · by_cases hm : m = j
      · subst hm
        rw [e3 _ (by omega), u2_s]
      · exact e4 m (by omega) h2
theorem x_clear {i : Nat} (hW : qW c lg) (hi : i < 6) : ∃ z', fX4_clear (c.1 3 i) (qE c lg z w) = some ((), qE c lg z' w) ∧ (∀ f, f ≠ 5 → z' f = z f) ∧ (∀ q, ¬ (12 * i ≤ q ∧ q < 12 * i + 12) → z' 5 q = z 5 q) ∧ ∀ m, m < 12 → z' 5 (12 * i + m) = -1 := by
  obtain ⟨z', e1, e2, e3, e4⟩ := x_clear_l (w := w) hW hi 12 0 z (by omega) 4096 (by omega)
  refine ⟨z', ?_, e2, e3, fun m h => e4 m (by omega) h⟩
  unfold fX4_clear
  rw [tR1 hW _ _ _ _ hi, tL hW _ _ _ _ hi]
  exact e1
end XT
