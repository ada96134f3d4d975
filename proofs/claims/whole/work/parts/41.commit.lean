/-! ===== committing, accepting, synchronizing ===== -/
def cmf (f : Nat → Nat) (q : Nat) : Nat → Nat → Nat
  | 0, k => k
  | n + 1, k => if q ≤ f (k + 1) then cmf f q n (k + 1) else k
theorem cmf_spec {f : Nat → Nat} {q : Nat} : ∀ n k, k ≤ cmf f q n k ∧ cmf f q n k ≤ k + n ∧ (cmf f q n k = k ∨ q ≤ f (cmf f q n k)) := by
  intro n
  induction n with
  | zero => intro k; exact ⟨Nat.le_refl _, Nat.le_refl _, Or.inl rfl⟩
  | succ n ih =>
    intro k
    simp only [cmf]
    by_cases h : q ≤ f (k + 1)
    · rw [if_pos h]
      obtain ⟨a, b, d⟩ := ih (k + 1)
      refine ⟨by omega, by omega, Or.inr ?_⟩
      rcases d with d | d
      · rw [d]; exact h
      · exact d
    · rw [if_neg h]
      exact ⟨Nat.le_refl _, by omega, Or.inl rfl⟩
theorem n2_self (nn : NN) (k i : Nat) : n2 nn k i (nn k i) = nn := by
  funext a b
  unfold n2
  split
  · next h => rw [h.1, h.2]
  · rfl
theorem n2_n2 (nn : NN) (k i u v : Nat) : n2 (n2 nn k i u) k i v = n2 nn k i v := by
  funext a b
  unfold n2
  split <;> rfl
theorem com_take : ∀ {l m : List TX}, (∀ x y, x ∈ l → y ∈ m → x.1 = y.1 → x = y) → l.take (com l m) = m.take (com l m) := by
  intro l
  induction l with
  | nil => intro m _; simp [com]
  | cons a l ih =>
    intro m h
    cases m with
    | nil => simp [com]
    | cons b m =>
      simp only [com]
      by_cases e : a.1 = b.1
      · rw [if_pos e, List.take_succ_cons, List.take_succ_cons, h a b (by simp) (by simp) e, ih (fun x y hx hy => h x y (by simp [hx]) (by simp [hy]))]
      · rw [if_neg e]
        rfl
section CM
variable {c : CX} {lg : LG} {z w : ZZ} {N : Nat} {nn : NN} {lo : Nat → List TX} {tr : Nat → List ND} {wt : List WT}
/-- how many active servers have k transactions -/
def cq (nn : NN) (lo : Nat → List TX) (k : Nat) : Nat := cn (fun i => decide (nn 2 i ≠ 0 ∧ k ≤ (lo i).length)) 5
theorem x_cnt_l {k : Nat} (hX : RX c lg z nn lo tr wt) (hb : ∀ i, i < 5 → nn 2 i ≤ 1) (hll : ∀ i, i < 5 → (lo i).length ≤ 40) (hk : k ≤ 50) : ∀ n j, j + n = 5 → ∀ f, n < f → fX7_countActiveWithLogOf_14 f (nI k) (nI (cn (fun i => decide (nn 2 i ≠ 0 ∧ k ≤ (lo i).length)) j)) (some (c.1 1 0)) (nI 5) (nI j) (qE c lg z w) = some (nI (cq nn lo k), qE c lg z w) := by
  intro n
  induction n with
  | zero =>
    intro j hj f hf
    obtain ⟨f, rfl⟩ : ∃ k', f = k' + 1 := ⟨f - 1, by omega⟩
    rw [fX7_countActiveWithLogOf_14, jr_t (nI_le (by omega) (by omega)), show j = 5 by omega]; rfl
  | succ n ih =>
    intro j hj f hf
    obtain ⟨f, rfl⟩ : ∃ k', f = k' + 1 := ⟨f - 1, by omega⟩
    have hj5 : j < 5 := by omega
    have e := ih (j + 1) (by omega) f (by omega)
    simp only [cn] at e
    have hbj := hb j hj5
    have hlj := hll j hj5
    rw [fX7_countActiveWithLogOf_14, jr_f (nI_ge (by omega) (by omega)), xSg hX.1 _ _ _ _ hj5, sI4 hX.1 _ _ _ _ hj5, hX.2.1 2 j (by simp [dX, hj5])]
    by_cases q : nn 2 j = 0
    · rw [if_neg (by simp [q]), Nat.add_zero] at e
      rw [jr_t (by rw [q]; rfl), nI_1]; exact e
    · rw [jr_f (fun e => q ((nI_e0 (by omega)).mp e)), sR2 hX.1 _ _ _ _ hj5, lO hX.1 _ _ _ _ (by omega), lS hX.1 _ _ _ _ (by omega), hX.len.2 j hj5]
      by_cases q2 : k ≤ (lo j).length
      · rw [if_pos (by simp [q, q2])] at e
        rw [jr_f (nI_nlt q2 (by omega)), nI_1, nI_1]; exact e
      · rw [if_neg (by simp [q2]), Nat.add_zero] at e
        rw [jr_t (nI_lt (by omega) (by omega)), nI_1]; exact e
theorem x_cnt {k : Nat} (hX : RX c lg z nn lo tr wt) (hb : ∀ i, i < 5 → nn 2 i ≤ 1) (hll : ∀ i, i < 5 → (lo i).length ≤ 40) (hk : k ≤ 50) : fX7_countActiveWithLogOf (c.1 0 0) (nI k) (qE c lg z w) = some (nI (cq nn lo k), qE c lg z w) := by
  unfold fX7_countActiveWithLogOf
  rw [xR0 hX.1, xSl hX.1]
  exact x_cnt_l hX hb hll hk 5 0 (by omega) 4096 (by omega)
theorem quo {n : Nat} (hn : n ≤ 5) : nI n / 2 + 1 = nI (n / 2 + 1) := by
  rw [show nI n / 2 = nI (n / 2) from pk_div (d := 2) (by omega) (by omega) (by omega), nI_1]
theorem x_quo (hX : RX c lg z nn lo tr wt) (hn : nn 0 4 ≤ 5) : fX7_quorum (c.1 0 0) (qE c lg z w) = some (nI (qm nn), qE c lg z w) := by
  unfold fX7_quorum
  rw [xI4 hX.1, hX.2.1 0 4 rfl, quo hn]; rfl
theorem m_quo (hW : qW c lg) (hM : RM w nn lo tr wt) (hn : nn 0 4 ≤ 5) : fX8_quorum (c.1 20 0) (qE c lg z w) = some (nI (qm nn), qE c lg z w) := by
  unfold fX8_quorum
  rw [mI0 hW, hM.1.1.1, quo hn]; rfl
theorem cq_anti {a b : Nat} (h : a ≤ b) : cq nn lo b ≤ cq nn lo a := cn_mono 5 (fun j _ q => by
  simp only [decide_eq_true_eq] at q ⊢
  exact ⟨q.1, by omega⟩)
theorem cq_n {k v : Nat} : cq (n2 nn 0 9 v) lo k = cq nn lo k := by
  unfold cq
  rw [n2_k (by decide)]
theorem cq_le {k : Nat} : cq nn lo k ≤ 5 := cn_le _ 5
theorem x_com_b {g k0 : Nat} (hX : RX c lg z nn lo tr wt) (hg : g < 5) (hn : nn 0 4 ≤ 5) (hb : ∀ i, i < 5 → nn 2 i ≤ 1) (hll : ∀ i, i < 5 → (lo i).length ≤ 40) (hk0 : cq nn lo k0 < qm nn) : ∀ n k, k + n = (lo g).length + 1 → k0 ≤ k → ∀ f, n < f → fX7_commitWhatAQuorumHas_7 f (c.1 0 0) (some (c.1 2 g)) (nI k) (qE c lg z w) = (jm_rd (jm_gI (some (c.1 0 0)) 8 9) fun v5 => jm_rd (jm_gR (some (c.1 0 0)) 8 2) fun v6 => jm_rd (jm_o (some (c.1 2 g)) 2) fun a7 => jm_bd (fX1_applyUpTo a7 v5 v6) fun v7 => jm_ret ()) (qE c lg z w) := by
  intro n
  have hgl := hll g hg
  induction n with
  | zero =>
    intro k hk hkk f hf
    obtain ⟨f, rfl⟩ : ∃ k', f = k' + 1 := ⟨f - 1, by omega⟩
    rw [fX7_commitWhatAQuorumHas_7, sR2 hX.1 _ _ _ _ hg, lO hX.1 _ _ _ _ (by omega), lS hX.1 _ _ _ _ (by omega), hX.len.2 g hg, jr_t (nI_lt (by omega) (by omega))]
  | succ n ih =>
    intro k hk hkk f hf
    obtain ⟨f, rfl⟩ : ∃ k', f = k' + 1 := ⟨f - 1, by omega⟩
    have hcq := cq_anti (nn := nn) (lo := lo) hkk
    have hq5 : qm nn ≤ 3 := by unfold qm; omega
    rw [fX7_commitWhatAQuorumHas_7, sR2 hX.1 _ _ _ _ hg, lO hX.1 _ _ _ _ (by omega), lS hX.1 _ _ _ _ (by omega), hX.len.2 g hg, jr_f (nI_nlt (by omega) (by omega)), xO hX.1, jr_bd (x_cnt hX hb hll (by omega)), xO hX.1, jr_bd (x_quo hX hn), jr_t (nI_lt (by omega) (by omega)), nI_1]
    exact ih (k + 1) (by omega) (by omega) f (by omega)
theorem x_com_a {g : Nat} (hg : g < 5) (hn : nn 0 4 ≤ 5) (hb : ∀ i, i < 5 → nn 2 i ≤ 1) (hll : ∀ i, i < 5 → (lo i).length ≤ 40) : ∀ n cm (z : ZZ), RX c lg z (n2 nn 0 9 cm) lo tr wt → cm + n = (lo g).length → ∀ f, n < f → ∃ z', fX7_commitWhatAQuorumHas_7 f (c.1 0 0) (some (c.1 2 g)) (nI (cm + 1)) (qE c lg z w) = (jm_rd (jm_gI (some (c.1 0 0)) 8 9) fun v5 => jm_rd (jm_gR (some (c.1 0 0)) 8 2) fun v6 => jm_rd (jm_o (some (c.1 2 g)) 2) fun a7 => jm_bd (fX1_applyUpTo a7 v5 v6) fun v7 => jm_ret ()) (qE c lg z' w) ∧ RX c lg z' (n2 nn 0 9 (cmf (cq nn lo) (qm nn) n cm)) lo tr wt ∧ (∀ f, 12 ≤ f → f ≤ 16 → z' f = z f) := by
  intro n
  have hgl := hll g hg
  induction n with
  | zero =>
    intro cm z hX hcm f hf
    obtain ⟨f, rfl⟩ : ∃ k', f = k' + 1 := ⟨f - 1, by omega⟩
    refine ⟨z, ?_, hX, fun _ _ _ => rfl⟩
    rw [fX7_commitWhatAQuorumHas_7, sR2 hX.1 _ _ _ _ hg, lO hX.1 _ _ _ _ (by omega), lS hX.1 _ _ _ _ (by omega), hX.len.2 g hg, jr_t (nI_lt (by omega) (by omega))]
  | succ n ih =>
    intro cm z hX hcm f hf
    have hb' : ∀ i, i < 5 → n2 nn 0 9 cm 2 i ≤ 1 := fun i hi => by rw [n2_k (by decide)]; exact hb i hi
    have hn' : n2 nn 0 9 cm 0 4 ≤ 5 := by rw [n2_i (by decide)]; exact hn
    have hqe : qm (n2 nn 0 9 cm) = qm nn := by unfold qm; rw [n2_i (by decide)]
    have hq5 : qm nn ≤ 3 := by unfold qm; omega
    simp only [cmf]
    by_cases h : qm nn ≤ cq nn lo (cm + 1)
    · obtain ⟨f, rfl⟩ : ∃ k', f = k' + 1 := ⟨f - 1, by omega⟩
      have hX1 := hX.n (k := 0) (i := 9) (v := cm + 1) rfl
      rw [n2_n2] at hX1
      obtain ⟨z', e1, e2, e9⟩ := ih (cm + 1) _ hX1 (by omega) f (by omega)
      refine ⟨z', ?_, by rw [if_pos h]; exact e2, fun f g1 g2 => by rw [e9 f g1 g2, u2_k (by omega)]⟩
      have hx1 := x_cnt (w := w) hX hb' hll (show cm + 1 ≤ 50 by omega)
      rw [cq_n] at hx1
      have hx2 := x_quo (w := w) hX hn'
      rw [hqe] at hx2
      have h5 := cq_le (nn := nn) (lo := lo) (k := cm + 1)
      rw [fX7_commitWhatAQuorumHas_7, sR2 hX.1 _ _ _ _ hg, lO hX.1 _ _ _ _ (by omega), lS hX.1 _ _ _ _ (by omega), hX.len.2 g hg, jr_f (nI_nlt (by omega) (by omega)), xO hX.1, jr_bd hx1, xO hX.1, jr_bd hx2, jr_f (nI_nlt h (by omega)), xP9 hX.1, nI_1]
      exact e1
    · refine ⟨z, ?_, by rw [if_neg h]; exact hX, fun _ _ _ => rfl⟩
      refine x_com_b (k0 := cm + 1) hX hg hn' hb' hll (by rw [cq_n, hqe]; omega) (n + 1) (cm + 1) (by omega) (Nat.le_refl _) f hf
/-- what commitWhatAQuorumHas does -/
theorem x_commit {g : Nat} (hX : RX c lg z nn lo tr wt) (hg : g < 5) (hn : nn 0 4 ≤ 5) (hb : ∀ i, i < 5 → nn 2 i ≤ 1) (hll : ∀ i, i < 5 → (lo i).length ≤ 40) (hcm : nn 0 9 ≤ (lo g).length) : ∃ z', fX7_commitWhatAQuorumHas (c.1 0 0) (some (c.1 2 g)) (qE c lg z w) = (jm_rd (jm_gI (some (c.1 0 0)) 8 9) fun v5 => jm_rd (jm_gR (some (c.1 0 0)) 8 2) fun v6 => jm_rd (jm_o (some (c.1 2 g)) 2) fun a7 => jm_bd (fX1_applyUpTo a7 v5 v6) fun v7 => jm_ret ()) (qE c lg z' w) ∧ RX c lg z' (n2 nn 0 9 (cmf (cq nn lo) (qm nn) ((lo g).length - nn 0 9) (nn 0 9))) lo tr wt ∧ (∀ f, 12 ≤ f → f ≤ 16 → z' f = z f) := by
  have hgl := hll g hg
  obtain ⟨z', e1, e2, e9⟩ := x_com_a (w := w) hg hn hb hll ((lo g).length - nn 0 9) (nn 0 9) z (by rw [n2_self]; exact hX) (by omega) 4096 (by omega)
  refine ⟨z', ?_, e2, e9⟩
  unfold fX7_commitWhatAQuorumHas
  rw [xI9 hX.1, hX.2.1 0 9 rfl, nI_1]
  exact e1
theorem m_com_c {k2 : Nat → Int32 → jm_P Unit} (hW : qW c lg) (hM : RM w nn lo tr wt) (hn : nn 0 4 ≤ 5) (hb : ∀ i, i < 5 → nn 2 i ≤ 1) (hll : ∀ i, i < 5 → (lo i).length ≤ 40) (hcm : nn 0 9 ≤ 40) : ∀ n j, j + n = nn 0 4 → ∀ f, n < f → fX8_commits_10 k2 f (c.1 20 0) (nI (cn (fun i => decide (nn 2 i ≠ 0 ∧ nn 0 9 + 1 ≤ (lo i).length)) j)) (nI j) (qE c lg z w) = if cn (fun i => decide (nn 2 i ≠ 0 ∧ nn 0 9 + 1 ≤ (lo i).length)) (nn 0 4) < qm nn then fX8_commits_67 k2 (c.1 20 0) 0 (qE c lg z w) else fX8_commits_67 k2 (c.1 20 0) 1 (qE c lg z w) := by
  intro n
  have hq5 : qm nn ≤ 3 := by unfold qm; omega
  induction n with
  | zero =>
    intro j hj f hf
    obtain ⟨f, rfl⟩ : ∃ k', f = k' + 1 := ⟨f - 1, by omega⟩
    have hcl := cn_le (fun i => decide (nn 2 i ≠ 0 ∧ nn 0 9 + 1 ≤ (lo i).length)) (nn 0 4)
    rw [fX8_commits_10, mI0 hW, hM.1.1.1, jr_t (nI_le (by omega) (by omega)), mO hW, jr_bd (m_quo hW hM hn), show j = nn 0 4 by omega]
    by_cases q : cn (fun i => decide (nn 2 i ≠ 0 ∧ nn 0 9 + 1 ≤ (lo i).length)) (nn 0 4) < qm nn
    · rw [if_pos q, jr_t (nI_lt q (by omega))]
    · rw [if_neg q, jr_f (nI_nlt (by omega) (by omega))]
  | succ n ih =>
    intro j hj f hf
    obtain ⟨f, rfl⟩ : ∃ k', f = k' + 1 := ⟨f - 1, by omega⟩
    have hj5 : j < 5 := by omega
    have e := ih (j + 1) (by omega) f (by omega)
    simp only [cn] at e
    have hbj := hb j hj5
    have hlj := hll j hj5
    have a0 : ∀ a : Nat, nI a + 0 = nI (a + 0) := fun a => nI_add a 0
    rw [fX8_commits_10, mI0 hW, hM.1.1.1, jr_f (nI_ge (by omega) (by omega)), mR2 hW, mG2 hW _ _ _ _ hj5, (hM.1.2 j hj5).2.1]
    by_cases q : nn 2 j = 0
    · rw [if_neg (by simp [q])] at e
      rw [jr_t (by rw [q]; rfl), nI_1, a0]; exact e
    · rw [jr_f (fun e => q ((nI_e0 (by omega)).mp e)), mR9 hW, mG9 hW _ _ _ _ hj5, (hM.2.1 j hj5).1, mI8 hW, hM.1.1.2.2.2.2.1]
      by_cases q2 : nn 0 9 + 1 ≤ (lo j).length
      · rw [if_pos (by simp [q]; omega)] at e
        rw [jr_f (nI_ge (by omega) (by omega)), nI_1, nI_1]; exact e
      · rw [if_neg (by simp [q]; omega)] at e
        rw [jr_t (nI_le (by omega) (by omega)), nI_1, a0]; exact e
theorem m_com {g : Nat} (hW : qW c lg) (hg : g < 5) (hng : nn 0 6 = g) (hn : nn 0 4 ≤ 5) (hb : ∀ i, i < 5 → nn 2 i ≤ 1) (hz : ∀ i, i < 5 → nn 0 4 ≤ i → nn 2 i = 0) (hll : ∀ i, i < 5 → (lo i).length ≤ 40) (hmax : ∀ i, i < 5 → nn 2 i ≠ 0 → (lo i).length ≤ (lo g).length) : ∀ n cm (w : ZZ), RM w (n2 nn 0 9 cm) lo tr wt → cm + n = (lo g).length → ∀ f, n + 1 < f → ∃ w', fX8_commits_2 f (c.1 20 0) 1 (qE c lg z w) = (jm_rd (jm_gI (some (c.1 20 0)) 9 5) fun v2 => jm_rd (jm_gI (some (c.1 20 0)) 9 8) fun v3 => jm_rd (jm_o (some (c.1 20 0)) 9) fun a4 => jm_bd (fX8_goesOn a4 v2 v3) fun v4 => jm_ret ()) (qE c lg z w') ∧ RM w' (n2 nn 0 9 (cmf (cq nn lo) (qm nn) n cm)) lo tr wt := by
  intro n
  have hgl := hll g hg
  have hq1 : 1 ≤ qm nn := by unfold qm; omega
  have key : ∀ (cm : Nat) (w : ZZ), RM w (n2 nn 0 9 cm) lo tr wt → cm ≤ 40 → ∀ f, fX8_commits_2 (f + 1) (c.1 20 0) 1 (qE c lg z w) = if cq nn lo (cm + 1) < qm nn then fX8_commits_67 (fun h0 x1 => fX8_commits_2 f h0 x1) (c.1 20 0) 0 (qE c lg z w) else fX8_commits_67 (fun h0 x1 => fX8_commits_2 f h0 x1) (c.1 20 0) 1 (qE c lg z w) := by
    intro cm w hM hcm f
    have e := m_com_c (z := z) (k2 := fun h0 x1 => fX8_commits_2 f h0 x1) hW hM (by rw [n2_i (by decide)]; exact hn) (fun i hi => by rw [n2_k (by decide)]; exact hb i hi) hll (by rw [n2_s]; exact hcm) (n2 nn 0 9 cm 0 4) 0 (by omega) 4096 (by rw [n2_i (by decide)]; omega)
    rw [n2_s, n2_k (show (2 : Nat) ≠ 0 by decide), n2_i (show (4 : Nat) ≠ 9 by decide), show qm (n2 nn 0 9 cm) = qm nn by unfold qm; rw [n2_i (by decide)]] at e
    have e2 : cq nn lo (cm + 1) = cn (fun i => decide (nn 2 i ≠ 0 ∧ cm + 1 ≤ (lo i).length)) (nn 0 4) := cn_5 hn (fun j h1 h2 => by simp [hz j h2 h1])
    rw [e2, fX8_commits_2, jr_f (by decide)]
    exact e
  have stop : ∀ (cm : Nat) (w : ZZ), RM w (n2 nn 0 9 cm) lo tr wt → ∀ f, fX8_commits_67 (fun h0 x1 => fX8_commits_2 (f + 1) h0 x1) (c.1 20 0) 0 (qE c lg z w) = (jm_rd (jm_gI (some (c.1 20 0)) 9 5) fun v2 => jm_rd (jm_gI (some (c.1 20 0)) 9 8) fun v3 => jm_rd (jm_o (some (c.1 20 0)) 9) fun a4 => jm_bd (fX8_goesOn a4 v2 v3) fun v4 => jm_ret ()) (qE c lg z (u2 w 8 0 (nI cm))) ∧ RM (u2 w 8 0 (nI cm)) (n2 nn 0 9 cm) lo tr wt := by
    intro cm w hM f
    have hM1 := hM.sc (a := 8) (b := 9) (v := cm) (by decide)
    rw [n2_n2] at hM1
    refine ⟨?_, hM1⟩
    unfold fX8_commits_67
    rw [mI8 hW, hM.1.1.2.2.2.2.1, n2_s, jr_t rfl, show nI cm + 0 = nI (cm + 0) from nI_add cm 0, Nat.add_zero, mP8 hW]
    simp only []
    rw [fX8_commits_2, jr_t rfl]
  induction n with
  | zero =>
    intro cm w hM hcm f hf
    obtain ⟨f, rfl⟩ : ∃ k', f = k' + 2 := ⟨f - 2, by omega⟩
    have h0 : cq nn lo (cm + 1) < qm nn := by
      have : cq nn lo (cm + 1) = 0 := by
        have h1 := cn_mono (f := fun i => decide (nn 2 i ≠ 0 ∧ cm + 1 ≤ (lo i).length)) (g := fun _ => false) 5 (fun j hj q => by
          simp only [decide_eq_true_eq] at q
          have := hmax j hj q.1
          omega)
        have h2 : cn (fun _ => false) 5 = 0 := rfl
        unfold cq
        omega
      omega
    obtain ⟨s1, s2⟩ := stop cm w hM f
    refine ⟨_, ?_, s2⟩
    rw [key cm w hM (by omega) (f + 1), if_pos h0]
    exact s1
  | succ n ih =>
    intro cm w hM hcm f hf
    obtain ⟨f, rfl⟩ : ∃ k', f = k' + 2 := ⟨f - 2, by omega⟩
    simp only [cmf]
    by_cases h : qm nn ≤ cq nn lo (cm + 1)
    · have hM1 := hM.sc (a := 8) (b := 9) (v := cm + 1) (by decide)
      rw [n2_n2] at hM1
      obtain ⟨w', e1, e2⟩ := ih (cm + 1) _ hM1 (by omega) (f + 1) (by omega)
      refine ⟨w', ?_, by rw [if_pos h]; exact e2⟩
      rw [key cm w hM (by omega) (f + 1), if_neg (by omega)]
      unfold fX8_commits_67
      rw [mI8 hW, hM.1.1.2.2.2.2.1, n2_s, jr_f (by decide), nI_1, mP8 hW]
      exact e1
    · obtain ⟨s1, s2⟩ := stop cm w hM f
      refine ⟨_, ?_, by rw [if_neg h]; exact s2⟩
      rw [key cm w hM (by omega) (f + 1), if_pos (by omega)]
      exact s1
theorem INV.com {g v : Nat} (h : INV N nn lo tr wt) (hg : nn 0 6 = g) (hg5 : g < 5) (h1 : nn 0 9 ≤ v) (h2 : v ≤ (lo g).length) (h3 : v = nn 0 9 ∨ qm nn ≤ cq nn lo v) : INV N (n2 nn 0 9 v) lo tr wt := by
  obtain ⟨i1, i2, i3, ⟨i4, i5, i6⟩, i7, ⟨g', g1, g2, g3, g4, g5, g6, g7⟩, i9, i10⟩ := h
  have hgg : g' = g := by rw [← hg]; exact (g2 (by omega)).symm
  subst hgg
  have kk : ∀ k, k ≠ 0 → n2 nn 0 9 v k = nn k := fun k hk => n2_k hk
  have k0 : ∀ i, i ≠ 9 → n2 nn 0 9 v 0 i = nn 0 i := fun i hi => n2_i hi
  unfold INV WV qm
  simp only [kk 1 (by decide), kk 2 (by decide), kk 3 (by decide), kk 4 (by decide), kk 10 (by decide), k0 4 (by decide), k0 5 (by decide), k0 6 (by decide), k0 7 (by decide), k0 8 (by decide), k0 10 (by decide), k0 11 (by decide), n2_s]
  refine ⟨i1, i2, i3, ⟨i4, i5, i6⟩, fun i hi => ?_, ⟨g', g1, g2, h2, g4, g5, g6, ?_⟩, i9, i10⟩
  · obtain ⟨a1, a2, a3, a4, a5⟩ := i7 i hi
    exact ⟨a1, a2, a3, a4, by omega⟩
  · rcases h3 with e | e
    · rw [e]; exact g7
    · have e2 : cq nn lo v = cn (fun i => decide (nn 2 i ≠ 0 ∧ v ≤ (lo i).length)) (nn 0 4) := cn_5 i1.2.1 (fun j q1 q2 => by
        obtain ⟨b1, b2, b3, b4, b5⟩ := i2 j q2
        have : nn 2 j = 0 := by
          by_cases q : nn 2 j = 1
          · have := (b4 q).1; have := b3 q1; omega
          · omega
        simp [this])
      rw [e2] at e
      refine cn_lo (fun j hj q => ?_) e
      simp only [decide_eq_true_eq] at q ⊢
      obtain ⟨b1, b2, b3, b4, b5⟩ := i2 j (by have := i1.2.1; omega)
      exact ⟨(b4 (by omega)).2, q.2⟩
/-- log s becomes a beginning of the leader's -/
theorem INV.cp {g s : Nat} {l : List TX} (h : INV N nn lo tr wt) (hg : nn 0 6 = g) (hg5 : g < 5) (hs : s < nn 0 4) (hsg : s ≠ g) (hup : nn 1 s = 1) (hl : l <+: lo g) (h4 : nn 4 s ≤ l.length) (h3 : nn 3 s = nn 0 7 → (lo s).length ≤ l.length) : INV N (n2 (n2 nn 2 s 1) 3 s (nn 0 7)) (va_up lo s l) tr wt := by
  obtain ⟨i1, i2, i3, ⟨i4, i5, i6⟩, i7, ⟨g', g1, g2, g3, g4, g5, g6, g7⟩, i9, i10⟩ := h
  have hgg : g' = g := by rw [← hg]; exact (g2 (by omega)).symm
  subst hgg
  have hs5 : s < 5 := by have := i1.2.1; omega
  have hlt : l = (lo g').take l.length := (List.prefix_iff_eq_take.mp hl)
  have hlm : ∀ x, x ∈ l → x ∈ lo g' := fun x hx => hl.subset hx
  have k0 : n2 (n2 nn 2 s 1) 3 s (nn 0 7) 0 = nn 0 := by rw [n2_k (by decide), n2_k (by decide)]
  have k1 : n2 (n2 nn 2 s 1) 3 s (nn 0 7) 1 = nn 1 := by rw [n2_k (by decide), n2_k (by decide)]
  have k4 : n2 (n2 nn 2 s 1) 3 s (nn 0 7) 4 = nn 4 := by rw [n2_k (by decide), n2_k (by decide)]
  have k10 : n2 (n2 nn 2 s 1) 3 s (nn 0 7) 10 = nn 10 := by rw [n2_k (by decide), n2_k (by decide)]
  have k2 : ∀ i, i ≠ s → n2 (n2 nn 2 s 1) 3 s (nn 0 7) 2 i = nn 2 i := fun i hi => by rw [n2_k (by decide), n2_i hi]
  have k3 : ∀ i, i ≠ s → n2 (n2 nn 2 s 1) 3 s (nn 0 7) 3 i = nn 3 i := fun i hi => by rw [n2_i hi, n2_k (by decide)]
  have k2s : n2 (n2 nn 2 s 1) 3 s (nn 0 7) 2 s = 1 := by rw [n2_k (by decide), n2_s]
  have k3s : n2 (n2 nn 2 s 1) 3 s (nn 0 7) 3 s = nn 0 7 := n2_s _ _ _ _
  have eg : va_up lo s l g' = lo g' := va_n (Ne.symm hsg)
  unfold INV WV qm
  simp only [k0, k1, k4, k10]
  refine ⟨i1, fun i hi => ?_, ?_, ⟨i4, i5, i6⟩, fun i hi => ?_, ⟨g', g1, g2, by rw [eg]; exact g3, by rw [eg]; exact g4, fun i hi he => ?_, fun i hi => ?_, ?_⟩, fun i hi => ?_, fun i k x y hi hk hx hy e => ?_⟩
  · obtain ⟨b1, b2, b3, b4, b5⟩ := i2 i hi
    by_cases e : i = s
    · subst e
      rw [k2s, k3s]
      exact ⟨b1, Nat.le_refl _, b3, fun _ => ⟨hup, rfl⟩, Nat.le_refl _⟩
    · rw [k2 i e, k3 i e]
      exact ⟨b1, b2, b3, b4, b5⟩
  · rcases i3 with q | ⟨q1, q2, q3⟩
    · have := q.1; omega
    · rw [hg] at q2 q3 ⊢
      refine Or.inr ⟨by omega, by rw [k2 _ (Ne.symm hsg)]; exact q2, by rw [eg]; exact q3⟩
  · obtain ⟨a1, a2, a3, a4, a5⟩ := i7 i hi
    by_cases e : i = s
    · subst e
      rw [va_s]
      have hgl := (i7 g' g1)
      refine ⟨Nat.le_trans hl.length_le hgl.1, by rw [hlt]; exact hgl.2.1.pre _, ?_, h4, a5⟩
      rw [a3, g6 i hi, pre_take hl h4]
    · rw [va_n e]
      exact ⟨a1, a2, a3, a4, a5⟩
  · rw [eg]
    by_cases e : i = s
    · subst e; rw [va_s]; exact hl
    · rw [va_n e]; rw [k3 i e] at he; exact g5 i hi he
  · rw [eg]
    by_cases e : i = s
    · subst e; rw [va_s]; exact pre_take hl h4
    · rw [va_n e]; exact g6 i hi
  · refine cn_lo (fun j hj q => ?_) g7
    simp only [decide_eq_true_eq] at q ⊢
    by_cases e : j = s
    · subst e
      rw [k3s, va_s]
      exact ⟨rfl, Nat.le_trans q.2 (h3 q.1)⟩
    · rw [k3 j e, va_n e]; exact q
  · by_cases e : i = s
    · subst e
      rw [va_s]
      refine ⟨fun j k x y h1 h2 h3 => ?_, fun x hx => (i9 g' g1).2 x (hlm x hx)⟩
      have e1 : ∀ j x, l[j]? = some x → (lo g')[j]? = some x := fun j x hj => by
        rw [hlt, List.getElem?_take] at hj
        split at hj
        · exact hj
        · cases hj
      exact (i9 g' g1).1 j k x y (e1 j x h1) (e1 k y h2) h3
    · rw [va_n e]; exact i9 i hi
  · have hm : ∀ i x, i < 5 → x ∈ va_up lo s l i → ∃ i', i' < 5 ∧ x ∈ lo i' := fun i x hi hx => by
      by_cases e : i = s
      · subst e; rw [va_s] at hx; exact ⟨g', g1, hlm x hx⟩
      · rw [va_n e] at hx; exact ⟨i, hi, hx⟩
    obtain ⟨i', hi', hx'⟩ := hm i x hi hx
    obtain ⟨k', hk', hy'⟩ := hm k y hk hy
    exact i10 i' k' x y hi' hk' hx' hy' e
end CM
