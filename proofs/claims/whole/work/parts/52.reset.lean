/-! ===== reset ===== -/
theorem cn_all {f : Nat → Bool} : ∀ n, (∀ j, j < n → f j = true) → cn f n = n := by
  intro n
  induction n with
  | zero => intro _; rfl
  | succ n ih =>
    intro h
    simp only [cn]
    rw [ih (fun j hj => h j (by omega)), if_pos (h n (by omega))]
section RS
variable {c : CX} {lg : LG} {z w : ZZ} {N : Nat} {nn : NN} {lo : Nat → List TX} {tr : Nat → List ND} {wt : List WT}
theorem nnR_0 {n i : Nat} (hi : 4 ≤ i) (hi2 : i < 12) : nnR nn n 0 i = if i = 4 then n else if i = 6 then 4294967288 else 0 := by
  have h : i = 4 ∨ i = 5 ∨ i = 6 ∨ i = 7 ∨ i = 8 ∨ i = 9 ∨ i = 10 ∨ i = 11 := by omega
  rcases h with rfl | rfl | rfl | rfl | rfl | rfl | rfl | rfl <;> simp [nnR, n2, nnS]
theorem nnR_k {n k i : Nat} (hk : 1 ≤ k) (hk2 : k ≤ 4) (hi : i < 5) : nnR nn n k i = if k = 1 ∧ i < n then 1 else 0 := by
  have h0 : k ≠ 0 := by omega
  unfold nnR
  rw [n2_k h0, n2_k h0, n2_k h0, n2_k h0, n2_k h0, n2_k h0, n2_k h0]
  unfold nnS
  rw [if_pos ⟨⟨hk, hk2⟩, hi⟩]
theorem nnR_e {n k i : Nat} (hk : 5 ≤ k) : nnR nn n k i = nn k i := by
  have h0 : k ≠ 0 := by omega
  unfold nnR
  rw [n2_k h0, n2_k h0, n2_k h0, n2_k h0, n2_k h0, n2_k h0, n2_k h0]
  unfold nnS
  rw [if_neg (fun q => by omega), n2_k h0]
theorem INV_reset {n : Nat} (hn3 : 3 ≤ n) (hn5 : n ≤ 5) (hev : ∀ k, k < 6 → nn 10 k ≤ N) : INV N (nnR nn n) (loS lo 5) (trS tr 5) [] := by
  have lz : ∀ i, i < 5 → loS lo 5 i = [] := fun i hi => if_pos hi
  have tz : ∀ i, i < 5 → trS tr 5 i = [] := fun i hi => if_pos hi
  have k4 : nnR nn n 0 4 = n := nnR_0 (by omega) (by omega)
  have k5 : nnR nn n 0 5 = 0 := nnR_0 (by omega) (by omega)
  have k6 : nnR nn n 0 6 = 4294967288 := nnR_0 (by omega) (by omega)
  have k7 : nnR nn n 0 7 = 0 := nnR_0 (by omega) (by omega)
  have k8 : nnR nn n 0 8 = 0 := nnR_0 (by omega) (by omega)
  have k9 : nnR nn n 0 9 = 0 := nnR_0 (by omega) (by omega)
  have k10 : nnR nn n 0 10 = 0 := nnR_0 (by omega) (by omega)
  have k11 : nnR nn n 0 11 = 0 := nnR_0 (by omega) (by omega)
  have v1 : ∀ i, i < 5 → nnR nn n 1 i = if i < n then 1 else 0 := fun i hi => by rw [nnR_k (by omega) (by omega) hi]; simp
  have v2 : ∀ i, i < 5 → nnR nn n 2 i = 0 := fun i hi => by rw [nnR_k (by omega) (by omega) hi]; simp
  have v3 : ∀ i, i < 5 → nnR nn n 3 i = 0 := fun i hi => by rw [nnR_k (by omega) (by omega) hi]; simp
  have v4 : ∀ i, i < 5 → nnR nn n 4 i = 0 := fun i hi => by rw [nnR_k (by omega) (by omega) hi]; simp
  have ve : ∀ i, nnR nn n 10 i = nn 10 i := fun i => nnR_e (by omega)
  generalize nnR nn n = m at *
  unfold INV WV qm
  simp only [k4, k5, k6, k7, k8, k9, k10, k11, ve]
  refine ⟨⟨hn3, hn5, by omega, by decide, by simp, by omega⟩, fun i hi => ?_, Or.inl ⟨trivial, v2⟩, ⟨⟨by simp, fun v hv => by simp at hv⟩, fun k hk => by simpa using hev k hk, by omega⟩, fun i hi => ?_, ⟨0, by omega, fun q => by omega, by omega, by omega, fun i hi _ => ?_, fun i hi => ?_, ?_⟩, fun i hi => ?_, fun i k x y hi hk hx => ?_⟩
  · rw [v1 i hi, v2 i hi, v3 i hi]
    refine ⟨by split <;> omega, by omega, fun q => by rw [if_neg (by omega)], fun q => by omega, by omega⟩
  · rw [lz i hi, tz i hi, v4 i hi]
    exact ⟨by simp, RV.nil, rfl, by simp, by omega⟩
  · rw [lz i hi, lz 0 (by omega)]; exact List.prefix_refl _
  · rw [lz i hi, lz 0 (by omega)]
  · rw [cn_all n (fun j hj => by simp [v3 j (by omega)])]
    omega
  · rw [lz i hi]
    exact ⟨fun j k x y h => by simp at h, fun x hx => by simp at hx⟩
  · rw [lz i hi] at hx
    simp at hx
theorem p_reset (x : Int32) (hX : RX c lg z nn lo tr wt) (hM : RM w nn lo tr wt) (hI : INV N nn lo tr wt) (hN : N < 600) : GO (fun a => fX7_reset a x) (fun a => fX8_reset a x) c lg z w N := by
  have hW := hX.1
  have bad : (x < 3 ∨ 5 < x) → GO (fun a => fX7_reset a x) (fun a => fX8_reset a x) c lg z w N := by
    intro hx
    have e := m_in (x := x) (l := 3) (h := 5) (S := qE c lg z w)
    by_cases h3 : x < 3
    · rw [if_pos h3] at e
      refine GO.read (v := -1) hX hM hI ?_ ?_
      · simp only [fX7_reset]
        rw [jr_t h3]; rfl
      · simp only [fX8_reset]
        rw [jr_bd (show fX8_in x.toInt64 3 5 (qE c lg z w) = _ from e), jr_t rfl]; rfl
    · have h5 := hx.resolve_left h3
      rw [if_neg h3, if_pos h5] at e
      refine GO.read (v := -1) hX hM hI ?_ ?_
      · simp only [fX7_reset]
        rw [jr_f h3, jr_f (Int32.not_le.mpr h5)]; rfl
      · simp only [fX8_reset]
        rw [jr_bd (show fX8_in x.toInt64 3 5 (qE c lg z w) = _ from e), jr_t rfl]; rfl
  rcases ix_cases x (n := 6) (by omega) with ⟨n, hn, rfl⟩ | hx
  · by_cases h3 : n < 3
    · exact bad (Or.inl (nI_lt (b := 3) h3 (by omega)))
    · have hx3 : ¬ nI n < (3 : Int32) := nI_nlt (b := 3) (by omega) (by omega)
      have hx5 : ¬ (5 : Int32) < nI n := nI_nlt (a := 5) (by omega) (by omega)
      obtain ⟨lg1, z1, e1, e2⟩ := x_start (n := n) w hX (by omega)
      obtain ⟨w1, f1, f2⟩ := m_begins (z := z1) (n := n) (nn := nnR nn n) (lo := loS lo 5) (tr := trS tr 5) (w := w) e2.1 (nnR_0 (by omega) (by omega)) (nnR_0 (by omega) (by omega)) ⟨nnR_0 (by omega) (by omega), nnR_0 (by omega) (by omega), nnR_0 (by omega) (by omega), nnR_0 (by omega) (by omega), nnR_0 (by omega) (by omega), nnR_0 (by omega) (by omega)⟩ (fun i hi => by rw [nnR_k (by omega) (by omega) (by omega), if_pos ⟨rfl, hi⟩]) (fun i hi => ⟨by rw [nnR_k (by omega) (by omega) hi]; simp, by rw [nnR_k (by omega) (by omega) hi]; simp, by rw [nnR_k (by omega) (by omega) hi]; simp⟩) (fun i hi => if_pos hi) (fun i hi => if_pos hi) (fun j hj => by rw [nnR_e (by omega)]; exact hM.2.2.2.2.1.2 j hj)
      have hI' : INV (N + 1) (nnR nn n) (loS lo 5) (trS tr 5) [] := (INV_reset (N := N) (by omega) (by omega) (fun k hk => by have := hI.2.2.2.1.2.1 k hk; omega)).succ
      refine ⟨nI (nn 0 4), c, lg1, z1, w1, _, _, _, _, ?_, ?_, e2, f2, hI', KE.rfl.mono (by omega) (by omega)⟩
      · simp only [fX7_reset]
        rw [jr_f hx3, jr_t (show nI n ≤ (5 : Int32) from nI_le (b := 5) (by omega) (by omega)), xI4 hW, hX.2.1 0 4 rfl, xO hW, jr_bd e1]; rfl
      · have e := m_in (x := nI n) (l := 3) (h := 5) (S := qE c lg1 z1 w)
        rw [if_neg hx3, if_neg hx5] at e
        simp only [fX8_reset]
        rw [jr_bd (show fX8_in (nI n).toInt64 3 5 (qE c lg1 z1 w) = _ from e), jr_f (by decide), mI0 e2.1, hM.1.1.1, mO e2.1, jr_bd f1]; rfl
  · refine bad ?_
    rcases hx with h | h
    · exact Or.inl (Int32.lt_trans h (show (0 : Int32) < 3 by decide))
    · exact Or.inr (Int32.lt_of_lt_of_le (show (5 : Int32) < nI 6 by decide +kernel) h)
end RS
