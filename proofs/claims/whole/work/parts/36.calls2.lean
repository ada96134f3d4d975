/-! ===== more calls: paths, nodes, restart, sessions ===== -/
section C2
variable {c : CX} {lg : LG} {z w : ZZ} {N : Nat} {nn : NN} {lo : Nat → List TX} {tr : Nat → List ND} {wt : List WT}
/-- the path alone, and what the rows of events hold, change -/
theorem INV.cg {nn' : NN} (h : INV N nn lo tr wt) (h0 : ∀ i, i ≠ 10 → i ≠ 11 → nn' 0 i = nn 0 i) (hk : ∀ k i, k ≠ 0 → k ≠ 11 → nn' k i = nn k i) (hp : okp (nn' 0 10) = true ∧ (nn' 0 10 = 0 ↔ nn' 0 11 = 0) ∧ nn' 0 11 ≤ 4) : INV N nn' lo tr wt := by
  obtain ⟨⟨b1, b2, b3, b4, b5, b6⟩, i2, i3, ⟨i4, i5, i6⟩, i7, i8, i9, i10⟩ := h
  have e4 := h0 4 (by decide) (by decide)
  have e5 := h0 5 (by decide) (by decide)
  have e6 := h0 6 (by decide) (by decide)
  have e7 := h0 7 (by decide) (by decide)
  have e8 := h0 8 (by decide) (by decide)
  have e9 := h0 9 (by decide) (by decide)
  refine ⟨⟨by rw [e4]; exact b1, by rw [e4]; exact b2, by rw [e5]; exact b3, hp⟩, ?_, ?_, ⟨?_, ?_, ?_⟩, ?_, ?_, ?_, i10⟩
  · simp only [hk 1 _ (by decide) (by decide), hk 2 _ (by decide) (by decide), hk 3 _ (by decide) (by decide), e4, e7]; exact i2
  · simp only [hk 2 _ (by decide) (by decide), e6]; exact i3
  · unfold WV; rw [e5]; exact i4
  · simp only [hk 10 _ (by decide) (by decide)]; exact i5
  · rw [e7]; exact i6
  · simp only [hk 4 _ (by decide) (by decide), e9]; exact i7
  · simp only [hk 3 _ (by decide) (by decide), hk 4 _ (by decide) (by decide), e4, e6, e7, e8, e9, qm]; exact i8
  · simp only [e7, e8]; exact i9
theorem p_clear (hX : RX c lg z nn lo tr wt) (hM : RM w nn lo tr wt) (hI : INV N nn lo tr wt) : GO fX7_clearPath fX8_clearPath c lg z w N := by
  have hW := hX.1
  have k0 : ∀ i, i ≠ 10 → i ≠ 11 → n2 (n2 nn 0 10 0) 0 11 0 0 i = nn 0 i := fun i h1 h2 => by rw [n2_i h2, n2_i h1]
  have kk : ∀ k i, k ≠ 0 → n2 (n2 nn 0 10 0) 0 11 0 k i = nn k i := fun k i h1 => by rw [n2_k h1, n2_k h1]
  refine ⟨nI (nn 0 11), c, lg, u2 (u2 z 0 10 (nI 0)) 0 11 (nI 0), u2 w 20 0 (nI 0), n2 (n2 nn 0 10 0) 0 11 0, lo, tr, wt, ?_, ?_, (hX.n rfl).n rfl, ?_, hI.succ.cg k0 (fun k i h1 _ => kk k i h1) ⟨by rw [n2_i (by decide), n2_s]; rfl, by rw [n2_i (by decide), n2_s, n2_s], by rw [n2_s]; omega⟩, KE.rfl.mono (by omega) (by omega)⟩
  · unfold fX7_clearPath
    rw [xI11 hW, hX.2.1 0 11 rfl, xP10 hW, xP11 hW]; rfl
  · unfold fX8_clearPath
    rw [mI20 hW, hM.1.1.2.2.2.2.2.1, mP20 hW]; rfl
  · obtain ⟨⟨⟨a0, a1, a2, a3, a4, a5, a6⟩, a7⟩, h2, h3, h4, h5, h6⟩ := hM
    refine ⟨⟨⟨?_, ?_, ?_, ?_, ?_, ?_, ?_⟩, fun i hi => ?_⟩, fun i hi => (h2 i hi).fr (fun f q1 q2 => u2_k (by omega)), fun i hi => (h3 i hi).fr (fun f q1 q2 => u2_k (by omega)), h4.fr (fun f q1 q2 => u2_k (by omega)), h5.fr (u2_k (by omega)) (u2_k (by omega)) (k0 5 (by decide) (by decide)) (by rw [n2_k (by decide), n2_k (by decide)]) (by rw [n2_k (by decide), n2_k (by decide)]), ⟨[], by rw [n2_s]; rfl, by rw [n2_s]; omega, fun a h => by simp at h, by rw [n2_i (by decide), n2_s]; rfl, fun j a h => by simp at h⟩⟩
    · rw [u2_k (by decide), k0 4 (by decide) (by decide)]; exact a0
    · rw [u2_k (by decide), k0 6 (by decide) (by decide)]; exact a1
    · rw [u2_k (by decide), k0 7 (by decide) (by decide)]; exact a2
    · rw [u2_k (by decide), k0 8 (by decide) (by decide)]; exact a3
    · rw [u2_k (by decide), k0 9 (by decide) (by decide)]; exact a4
    · rw [u2_s, n2_s]
    · rw [u2_k (by decide), k0 5 (by decide) (by decide)]; exact a6
    · simp only [u2_k (show (1 : Nat) ≠ 20 by decide), u2_k (show (2 : Nat) ≠ 20 by decide), u2_k (show (3 : Nat) ≠ 20 by decide), u2_k (show (4 : Nat) ≠ 20 by decide), kk 1 _ (by decide), kk 2 _ (by decide), kk 3 _ (by decide), kk 4 _ (by decide), k0 4 (by decide) (by decide)]
      exact a7 i hi
/-! the node of the path in a server's tree -/
/-- both sides find the same node, or none -/
theorem both_find {s : Nat} (hX : RX c lg z nn lo tr wt) (hM : RM w nn lo tr wt) (hI : INV N nn lo tr wt) (hs : s < 5) : ∃ r v, fX4_find (c.1 3 s) (nI (nn 0 10)) (qE c lg z w) = some (r, qE c lg z w) ∧ fX8_find (c.1 20 0) (nI s) (nI (p7 (nn 0 10))) (qE c lg z w) = some (v, qE c lg z w) ∧ ((r = none ∧ v = -8) ∨ ∃ m m' nd, m < 12 ∧ m' < 12 ∧ r = some (c.1 5 (12 * s + m)) ∧ v = nI (12 * s + m') ∧ slot z (12 * s + m) = some nd ∧ w 17 (12 * s + m') = nI nd.2.1 ∧ w 18 (12 * s + m') = nI nd.2.2.1 ∧ w 19 (12 * s + m') = nI nd.2.2.2 ∧ nn 0 10 ≠ 0) := by
  have hok := hI.1.2.2.2.1
  have ht := hI.TV hs
  obtain ⟨r, e1, e2⟩ := hX.find (i := s) (p := nn 0 10) w (by omega) (okp_lt hok)
  obtain ⟨q, q1, q2⟩ := hM.2.2.1 s hs
  have hql : q.length ≤ 12 := by rw [q1.length_eq]; exact ht.2.2
  obtain ⟨v, f1, f2⟩ := m_find (z := z) (p := nn 0 10) hX.1 q2 (show s < 6 by omega) hql hok (fun nd hn => (ht.2.1 nd (q1.mem_iff.mp hn)).1)
  refine ⟨r, v, e1, f1, ?_⟩
  rcases e2 with ⟨e2, e3⟩ | ⟨m, nd, m1, m2, m3, m4, m5⟩
  · rcases f2 with ⟨f2, -⟩ | ⟨m', nd', g1, g2, -⟩
    · exact Or.inl ⟨e2, f2⟩
    · exact absurd g2 (e3 nd' (q1.mem_iff.mp (List.mem_of_getElem? g1)))
  · rcases f2 with ⟨-, f3⟩ | ⟨m', nd', g1, g2, g3⟩
    · exact absurd m5 (f3 nd (q1.mem_iff.mpr m4))
    · have e : nd' = nd := nodup_eq ht.1 (q1.mem_iff.mp (List.mem_of_getElem? g1)) m4 (by rw [g2, m5])
      subst e
      have hm' := (List.getElem?_eq_some_iff.mp g1).1
      obtain ⟨w1, w2, w3, w4⟩ := q2.2 m' _ g1
      exact Or.inr ⟨m, m', nd', m1, by omega, m2, g3, m3, w2, w3, w4, by rw [← m5]; exact (ht.2.1 _ m4).2.1⟩
theorem x_nodeError_n {x : Int32} (hX : RX c lg z nn lo tr wt) (hx : x < 0 ∨ nI (nn 0 4) ≤ x) : fX7_nodeError (c.1 0 0) x (qE c lg z w) = some (-1, qE c lg z w) ∧ fX7_nodeAt (c.1 0 0) x (qE c lg z w) = some (none, qE c lg z w) := by
  refine ⟨?_, ?_⟩
  · unfold fX7_nodeError
    rw [xO hX.1, jr_bd (x_srvn hX hx), jr_t rfl]; rfl
  · unfold fX7_nodeAt
    rw [xO hX.1, jr_bd (x_srvn hX hx), jr_t rfl]; rfl
theorem p_node (x : Int32) (hX : RX c lg z nn lo tr wt) (hM : RM w nn lo tr wt) (hI : INV N nn lo tr wt) : GO (fun a => fX7_dataAt a x) (fun a => fX8_dataAt a x) c lg z w N ∧ GO (fun a => fX7_versionAt a x) (fun a => fX8_versionAt a x) c lg z w N ∧ GO (fun a => fX7_ownerAt a x) (fun a => fX8_ownerAt a x) c lg z w N := by
  have hW := hX.1
  have hn := hI.1.2.1
  have hok := hI.1.2.2.2.1
  have h0 := hI.1.2.2.2.2.1
  rcases ix_cases x (n := nn 0 4) (by omega) with ⟨s, hs, rfl⟩ | hx
  · have hs5 : s < 5 := by omega
    obtain ⟨r, v, e1, f1, e2⟩ := both_find hX hM hI hs5
    have hna : fX7_nodeAt (c.1 0 0) (nI s) (qE c lg z w) = some (r, qE c lg z w) := by
      unfold fX7_nodeAt
      rw [xO hW, jr_bd (x_srv hX hs hn), jr_f (by simp), sR1 hW _ _ _ _ hs5, xI10 hW, hX.2.1 0 10 rfl, tO hW _ _ _ _ (by omega), jr_bd e1]; rfl
    rcases e2 with ⟨r1, v1⟩ | ⟨m, m', nd, m1, m2, r1, v1, s1, w1, w2, w3, hp0⟩
    · have hne : fX7_nodeError (c.1 0 0) (nI s) (qE c lg z w) = some (if nn 0 10 = 0 then -2 else -3, qE c lg z w) := by
        unfold fX7_nodeError
        rw [xO hW, jr_bd (x_srv hX hs hn), jr_f (by simp), xI10 hW, hX.2.1 0 10 rfl]
        by_cases q : nn 0 10 = 0
        · rw [if_pos q, jr_t (by rw [q]; rfl)]; rfl
        · rw [if_neg q, jr_f (fun e => q ((nI_e0 (by have := okp_lt hok; omega)).mp e))]; rfl
      have hno : fX8_nodeOf (c.1 20 0) (nI s) (qE c lg z w) = some (if nn 0 10 = 0 then -2 else -3, qE c lg z w) := by
        unfold fX8_nodeOf
        rw [mO hW, jr_bd (m_srv hW hM hs hn), jr_f (by decide), mI20 hW, hM.1.1.2.2.2.2.2.1]
        by_cases q : nn 0 10 = 0
        · rw [if_pos q, jr_t (by rw [h0.mp q]; rfl)]; rfl
        · rw [if_neg q, jr_f (fun e => q (h0.mpr ((nI_e0 (by have := hI.1.2.2.2.2.2; omega)).mp e))), mO hW, jr_bd (m_path hW hM), mO hW, jr_bd f1, jr_t v1]; rfl
      have hneg : ¬ (0 : Int32) ≤ (if nn 0 10 = 0 then -2 else -3) := by split <;> decide
      refine ⟨GO.read (v := if nn 0 10 = 0 then -2 else -3) hX hM hI ?_ ?_, GO.read (v := if nn 0 10 = 0 then -2 else -3) hX hM hI ?_ ?_, GO.read (v := if nn 0 10 = 0 then -2 else -3) hX hM hI ?_ ?_⟩
      · simp only [fX7_dataAt]
        rw [xO hW, jr_bd hna, jr_t r1, xO hW, jr_bd hne]; rfl
      · simp only [fX8_dataAt]
        rw [mO hW, jr_bd hno, jr_f hneg]; rfl
      · simp only [fX7_versionAt]
        rw [xO hW, jr_bd hna, jr_t r1, xO hW, jr_bd hne]; rfl
      · simp only [fX8_versionAt]
        rw [mO hW, jr_bd hno, jr_f hneg]; rfl
      · simp only [fX7_ownerAt]
        rw [xO hW, jr_bd hna, jr_t r1, xO hW, jr_bd hne]; rfl
      · simp only [fX8_ownerAt]
        rw [mO hW, jr_bd hno, jr_f hneg]; rfl
    · have hno : fX8_nodeOf (c.1 20 0) (nI s) (qE c lg z w) = some (nI (12 * s + m'), qE c lg z w) := by
        unfold fX8_nodeOf
        rw [mO hW, jr_bd (m_srv hW hM hs hn), jr_f (by decide), mI20 hW, hM.1.1.2.2.2.2.2.1, jr_f (fun e => hp0 (h0.mpr ((nI_e0 (by have := hI.1.2.2.2.2.2; omega)).mp e))), mO hW, jr_bd (m_path hW hM), mO hW, jr_bd f1, jr_f (by rw [v1, m8_]; intro e; have := (nI_inj (by omega) (by omega)).mp e; omega), v1]; rfl
      have hpos : (0 : Int32) ≤ nI (12 * s + m') := nI_pos' (by omega)
      obtain ⟨t5, t6, t7, t8, -⟩ := slot_some s1
      refine ⟨GO.read (v := nI nd.2.1) hX hM hI ?_ ?_, GO.read (v := nI nd.2.2.1) hX hM hI ?_ ?_, GO.read (v := nI nd.2.2.2) hX hM hI ?_ ?_⟩
      · simp only [fX7_dataAt]
        rw [xO hW, jr_bd hna, r1, jr_f (by simp), nI1_ hW _ _ _ _ (by omega), t6]; rfl
      · simp only [fX8_dataAt]
        rw [mO hW, jr_bd hno, jr_t hpos, mR17 hW, mG17 hW _ _ _ _ (by omega), w1]; rfl
      · simp only [fX7_versionAt]
        rw [xO hW, jr_bd hna, r1, jr_f (by simp), nI2_ hW _ _ _ _ (by omega), t7]; rfl
      · simp only [fX8_versionAt]
        rw [mO hW, jr_bd hno, jr_t hpos, mR18 hW, mG18 hW _ _ _ _ (by omega), w2]; rfl
      · simp only [fX7_ownerAt]
        rw [xO hW, jr_bd hna, r1, jr_f (by simp), nI3_ hW _ _ _ _ (by omega), t8]; rfl
      · simp only [fX8_ownerAt]
        rw [mO hW, jr_bd hno, jr_t hpos, mR19 hW, mG19 hW _ _ _ _ (by omega), w3]; rfl
  · obtain ⟨g1, g2⟩ := x_nodeError_n (w := w) hX hx
    have hno : fX8_nodeOf (c.1 20 0) x (qE c lg z w) = some (-1, qE c lg z w) := by
      unfold fX8_nodeOf
      rw [mO hW, jr_bd (m_srvn hW hM hx hn), jr_t rfl]; rfl
    refine ⟨GO.read (v := -1) hX hM hI ?_ ?_, GO.read (v := -1) hX hM hI ?_ ?_, GO.read (v := -1) hX hM hI ?_ ?_⟩
    · simp only [fX7_dataAt]
      rw [xO hW, jr_bd g2, jr_t rfl, xO hW, jr_bd g1]; rfl
    · simp only [fX8_dataAt]
      rw [mO hW, jr_bd hno, jr_f (by decide)]; rfl
    · simp only [fX7_versionAt]
      rw [xO hW, jr_bd g2, jr_t rfl, xO hW, jr_bd g1]; rfl
    · simp only [fX8_versionAt]
      rw [mO hW, jr_bd hno, jr_f (by decide)]; rfl
    · simp only [fX7_ownerAt]
      rw [xO hW, jr_bd g2, jr_t rfl, xO hW, jr_bd g1]; rfl
    · simp only [fX8_ownerAt]
      rw [mO hW, jr_bd hno, jr_f (by decide)]; rfl
theorem p_child (x : Int32) (hX : RX c lg z nn lo tr wt) (hM : RM w nn lo tr wt) (hI : INV N nn lo tr wt) : GO (fun a => fX7_childCount a x) (fun a => fX8_childCount a x) c lg z w N := by
  have hW := hX.1
  have hn := hI.1.2.1
  have hok := hI.1.2.2.2.1
  have hlt := okp_lt hok
  rcases ix_cases x (n := nn 0 4) (by omega) with ⟨s, hs, rfl⟩ | hx
  · have hs5 : s < 5 := by omega
    have ht := hI.TV hs5
    have hP := hX.2.2.2 s (by omega)
    obtain ⟨r, v, e1, f1, e2⟩ := both_find hX hM hI hs5
    have hcx := x_child (z := z) (w := w) (p := nn 0 10) hW (show s < 6 by omega) hlt (fun nd hn => okp_lt (ht.2.1 nd (hP.mem_iff.mp hn)).1)
    rw [hP.countP_eq] at hcx
    have hcm := m_child (z := z) (p := nn 0 10) hW (hM.2.2.1 s hs5) (show s < 6 by omega) ht hok
    have b7 := (ok_all hok).2.1
    have b8 := (ok_all hok).2.2.2.2.2
    by_cases q : nn 0 10 = 0
    · refine GO.read (v := nI ((tr s).countP (fun nd => nd.1 / 8 == nn 0 10))) hX hM hI ?_ ?_
      · simp only [fX7_childCount]
        rw [xO hW, jr_bd (x_srv hX hs hn), jr_f (by simp), xI10 hW, hX.2.1 0 10 rfl, jr_t (by rw [q]; rfl), sR1 hW _ _ _ _ hs5, xI10 hW, hX.2.1 0 10 rfl, tO hW _ _ _ _ (by omega), jr_bd hcx]; rfl
      · simp only [fX8_childCount]
        rw [mO hW, jr_bd (m_srv hW hM hs hn), jr_f (by decide), mO hW, jr_bd (m_path hW hM), jr_t (by rw [b8.mp q]; rfl), mO hW, jr_bd hcm]; rfl
    · rcases e2 with ⟨r1, v1⟩ | ⟨m, m', nd, m1, m2, r1, v1, -⟩
      · refine GO.read (v := -3) hX hM hI ?_ ?_
        · simp only [fX7_childCount]
          rw [xO hW, jr_bd (x_srv hX hs hn), jr_f (by simp), xI10 hW, hX.2.1 0 10 rfl, jr_f (fun e => q ((nI_e0 (by omega)).mp e)), sR1 hW _ _ _ _ hs5, xI10 hW, hX.2.1 0 10 rfl, tO hW _ _ _ _ (by omega), jr_bd e1, jr_t r1]; rfl
        · simp only [fX8_childCount]
          rw [mO hW, jr_bd (m_srv hW hM hs hn), jr_f (by decide), mO hW, jr_bd (m_path hW hM), jr_f (fun e => q (b8.mpr ((nI_e0 (by omega)).mp e))), mO hW, jr_bd f1, jr_t v1]; rfl
      · refine GO.read (v := nI ((tr s).countP (fun nd => nd.1 / 8 == nn 0 10))) hX hM hI ?_ ?_
        · simp only [fX7_childCount]
          rw [xO hW, jr_bd (x_srv hX hs hn), jr_f (by simp), xI10 hW, hX.2.1 0 10 rfl, jr_f (fun e => q ((nI_e0 (by omega)).mp e)), sR1 hW _ _ _ _ hs5, xI10 hW, hX.2.1 0 10 rfl, tO hW _ _ _ _ (by omega), jr_bd e1, jr_f (by rw [r1]; simp), sR1 hW _ _ _ _ hs5, xI10 hW, hX.2.1 0 10 rfl, tO hW _ _ _ _ (by omega), jr_bd hcx]; rfl
        · simp only [fX8_childCount]
          rw [mO hW, jr_bd (m_srv hW hM hs hn), jr_f (by decide), mO hW, jr_bd (m_path hW hM), jr_f (fun e => q (b8.mpr ((nI_e0 (by omega)).mp e))), mO hW, jr_bd f1, jr_f (by rw [v1, m8_]; intro e; have := (nI_inj (by omega) (by omega)).mp e; omega), mO hW, jr_bd hcm]; rfl
  · refine GO.read (v := -1) hX hM hI ?_ ?_
    · simp only [fX7_childCount]
      rw [xO hW, jr_bd (x_srvn hX hx), jr_t rfl]; rfl
    · simp only [fX8_childCount]
      rw [mO hW, jr_bd (m_srvn hW hM hx hn), jr_t rfl]; rfl
/-! counting servers -/
theorem x_up_l {f : Nat → Bool} (hX : RX c lg z nn lo tr wt) (hf : ∀ i, i < 5 → (f i = true ↔ nn 1 i ≠ 0)) (hb : ∀ i, i < 5 → nn 1 i ≤ 1) : ∀ n j, j + n = 5 → ∀ k, n < k → fX7_countUp_13 k (nI (cn f j)) (some (c.1 1 0)) (nI 5) (nI j) (qE c lg z w) = some (nI (cn f 5), qE c lg z w) := by
  intro n
  induction n with
  | zero =>
    intro j hj k hk
    obtain ⟨k, rfl⟩ : ∃ k', k = k' + 1 := ⟨k - 1, by omega⟩
    rw [fX7_countUp_13, jr_t (nI_le (by omega) (by omega)), show j = 5 by omega]; rfl
  | succ n ih =>
    intro j hj k hk
    obtain ⟨k, rfl⟩ : ∃ k', k = k' + 1 := ⟨k - 1, by omega⟩
    have hj5 : j < 5 := by omega
    have e := ih (j + 1) (by omega) k (by omega)
    simp only [cn] at e
    have hbj := hb j hj5
    rw [fX7_countUp_13, jr_f (nI_ge (by omega) (by omega)), xSg hX.1 _ _ _ _ hj5, sI3 hX.1 _ _ _ _ hj5, hX.2.1 1 j (by simp [dX, hj5])]
    by_cases q : nn 1 j = 0
    · rw [if_neg (fun e => (hf j hj5).mp e q), Nat.add_zero] at e
      rw [jr_t (by rw [q]; rfl), nI_1]; exact e
    · rw [if_pos ((hf j hj5).mpr q)] at e
      rw [jr_f (fun e => q ((nI_e0 (by omega)).mp e)), nI_1, nI_1]; exact e
theorem x_ups (hX : RX c lg z nn lo tr wt) (hb : ∀ i, i < 5 → nn 1 i ≤ 1) : fX7_countUp (c.1 0 0) (qE c lg z w) = some (nI (cn (fun i => decide (nn 1 i ≠ 0)) 5), qE c lg z w) := by
  unfold fX7_countUp
  rw [xR0 hX.1, xSl hX.1]
  exact x_up_l (f := fun i => decide (nn 1 i ≠ 0)) hX (fun i _ => by simp) hb 5 0 (by omega) 4096 (by omega)
theorem m_up_l {f : Nat → Bool} (hW : qW c lg) (hM : RM w nn lo tr wt) (hn : nn 0 4 ≤ 5) (hf : ∀ i, i < 5 → (f i = true ↔ nn 1 i ≠ 0)) (hb : ∀ i, i < 5 → nn 1 i ≤ 1) : ∀ n j, j + n = nn 0 4 → ∀ k, n < k → fX8_ups_4 k (c.1 20 0) (nI (cn f j)) (nI j) (qE c lg z w) = some (nI (cn f (nn 0 4)), qE c lg z w) := by
  intro n
  induction n with
  | zero =>
    intro j hj k hk
    obtain ⟨k, rfl⟩ : ∃ k', k = k' + 1 := ⟨k - 1, by omega⟩
    rw [fX8_ups_4, mI0 hW, hM.1.1.1, jr_t (nI_le (by omega) (by omega)), show j = nn 0 4 by omega]; rfl
  | succ n ih =>
    intro j hj k hk
    obtain ⟨k, rfl⟩ : ∃ k', k = k' + 1 := ⟨k - 1, by omega⟩
    have hj5 : j < 5 := by omega
    have e := ih (j + 1) (by omega) k (by omega)
    simp only [cn] at e
    have hbj := hb j hj5
    rw [fX8_ups_4, mI0 hW, hM.1.1.1, jr_f (nI_ge (by omega) (by omega)), mR1 hW, mG1 hW _ _ _ _ hj5, (hM.1.2 j hj5).1 (by omega)]
    by_cases q : nn 1 j = 0
    · rw [if_neg (fun e => (hf j hj5).mp e q)] at e
      rw [jr_t (by rw [q]; rfl), nI_1, show nI (cn f j) + 0 = nI (cn f j + 0) from nI_add _ 0]; exact e
    · rw [if_pos ((hf j hj5).mpr q)] at e
      rw [jr_f (fun e => q ((nI_e0 (by omega)).mp e)), nI_1, nI_1]; exact e
theorem m_ups (hW : qW c lg) (hM : RM w nn lo tr wt) (hn : nn 0 4 ≤ 5) (hb : ∀ i, i < 5 → nn 1 i ≤ 1) (hz : ∀ i, i < 5 → nn 0 4 ≤ i → nn 1 i = 0) : fX8_ups (c.1 20 0) (qE c lg z w) = some (nI (cn (fun i => decide (nn 1 i ≠ 0)) 5), qE c lg z w) := by
  rw [cn_5 hn (fun j h1 h2 => by simp [hz j h2 h1])]
  exact m_up_l (f := fun i => decide (nn 1 i ≠ 0)) hW hM hn (fun i _ => by simp) hb (nn 0 4) 0 (by omega) 4096 (by omega)
theorem INV.up1 {s : Nat} (h : INV N nn lo tr wt) (hs : s < nn 0 4) (h2 : nn 2 s = 0 ∨ nn 1 s = 1) : INV N (n2 nn 1 s 1) lo tr wt := by
  obtain ⟨i1, i2, i3, i4, i5, i6, i7, i8⟩ := h
  unfold INV WV qm
  simp only [n2_k (show (0 : Nat) ≠ 1 by decide), n2_k (show (2 : Nat) ≠ 1 by decide), n2_k (show (3 : Nat) ≠ 1 by decide), n2_k (show (4 : Nat) ≠ 1 by decide), n2_k (show (10 : Nat) ≠ 1 by decide)]
  refine ⟨i1, fun i hi => ?_, i3, i4, i5, i6, i7, i8⟩
  obtain ⟨j1, j2, j3, j4, j5⟩ := i2 i hi
  by_cases e : i = s
  · subst e
    rw [n2_s]
    exact ⟨by omega, j2, fun q => by omega, fun q => ⟨rfl, (j4 q).2⟩, j5⟩
  · rw [n2_i e]
    exact ⟨j1, j2, j3, j4, j5⟩
theorem p_restart (x : Int32) (hX : RX c lg z nn lo tr wt) (hM : RM w nn lo tr wt) (hI : INV N nn lo tr wt) : GO (fun a => fX7_restart a x) (fun a => fX8_restart a x) c lg z w N := by
  have hW := hX.1
  have hn := hI.1.2.1
  rcases ix_cases x (n := nn 0 4) (by omega) with ⟨s, hs, rfl⟩ | hx
  · have hs5 : s < 5 := by omega
    obtain ⟨j1, j2, j3, j4, j5⟩ := hI.2.1 s hs5
    by_cases q : nn 1 s = 0
    · have hs2 : nn 2 s = 0 := by
        by_cases e : nn 2 s = 1
        · have := (j4 e).1; omega
        · omega
      have hX1 := hX.n (k := 1) (i := s) (v := 1) (by simp [dX, hs5])
      have hM1 := hM.sv (k := 1) (i := s) (v := 1) (by omega) (by omega)
      have hI1 := hI.succ.up1 hs (Or.inl hs2)
      have hb1 : ∀ i, i < 5 → n2 nn 1 s 1 1 i ≤ 1 := fun i hi => (hI1.2.1 i hi).1
      refine ⟨nI (cn (fun i => decide (n2 nn 1 s 1 1 i ≠ 0)) 5), c, lg, _, _, _, lo, tr, wt, ?_, ?_, hX1, hM1, hI1, KE.rfl.mono (by omega) (by omega)⟩
      · simp only [fX7_restart]
        rw [xO hW, jr_bd (x_srv hX hs hn), jr_f (by simp), sI3 hW _ _ _ _ hs5, hX.2.1 1 s (by simp [dX, hs5]), jr_t (by rw [q]; rfl), jZ1, sP3 hW _ _ _ _ _ hs5, xO hW]
        rw [jr_bd (show fX7_countUp (c.1 0 0) (qE c lg (u2 z 1 s 1) w) = _ from x_ups hX1 hb1)]; rfl
      · have hM0 : RM w nn lo tr wt := hM
        simp only [fX8_restart]
        rw [mO hW, jr_bd (m_srv hW hM hs hn), jr_f (by decide), mR1 hW, mG1 hW _ _ _ _ hs5, (hM.1.2 s hs5).1 hs, jr_t (by rw [q]; rfl), mR1 hW, jZ1, mS1 hW _ _ _ _ _ hs5, mO hW]
        have hz : ∀ i, i < 5 → n2 nn 1 s 1 0 4 ≤ i → n2 nn 1 s 1 1 i = 0 := fun i hi q => (hI1.2.1 i hi).2.2.1 q
        rw [jr_bd (show fX8_ups (c.1 20 0) (qE c lg _ (u2 w 1 s 1)) = _ from m_ups hW hM1 (by rw [n2_k (by decide)]; exact hn) hb1 hz)]; rfl
    · refine GO.read (v := -2) hX hM hI ?_ ?_
      · simp only [fX7_restart]
        rw [xO hW, jr_bd (x_srv hX hs hn), jr_f (by simp), sI3 hW _ _ _ _ hs5, hX.2.1 1 s (by simp [dX, hs5]), jr_f (fun e => q ((nI_e0 (by omega)).mp e))]; rfl
      · simp only [fX8_restart]
        rw [mO hW, jr_bd (m_srv hW hM hs hn), jr_f (by decide), mR1 hW, mG1 hW _ _ _ _ hs5, (hM.1.2 s hs5).1 hs, jr_f (fun e => q ((nI_e0 (by omega)).mp e))]; rfl
  · refine GO.read (v := -1) hX hM hI ?_ ?_
    · simp only [fX7_restart]
      rw [xO hW, jr_bd (x_srvn hX hx), jr_t rfl]; rfl
    · simp only [fX8_restart]
      rw [mO hW, jr_bd (m_srvn hW hM hx hn), jr_t rfl]; rfl
theorem p_open (hX : RX c lg z nn lo tr wt) (hM : RM w nn lo tr wt) (hI : INV N nn lo tr wt) : GO fX7_openSession fX8_openSession c lg z w N := by
  have hW := hX.1
  have hs := hI.1.2.2.1
  by_cases h6 : nn 0 5 = 6
  · refine GO.read (v := -7) hX hM hI ?_ ?_
    · unfold fX7_openSession
      rw [xI5 hW, hX.2.1 0 5 rfl, h6, jr_f (by decide +kernel)]; rfl
    · unfold fX8_openSession
      rw [mI22 hW, hM.1.1.2.2.2.2.2.2, h6, jr_t (show nI 6 = 6 from rfl)]; rfl
  · have hs6 : nn 0 5 < 6 := by omega
    have k0 : ∀ i, i ≠ 5 → n2 (n2 nn 10 (nn 0 5) 0) 0 5 (nn 0 5 + 1) 0 i = nn 0 i := fun i h1 => by rw [n2_i h1, n2_k (by decide)]
    have kk : ∀ k i, k ≠ 0 → k ≠ 10 → n2 (n2 nn 10 (nn 0 5) 0) 0 5 (nn 0 5 + 1) k i = nn k i := fun k i h1 h2 => by rw [n2_k h1, n2_k h2]
    refine ⟨nI (nn 0 5), c, lg, u2 (u2 z 10 (nn 0 5) (nI 0)) 0 5 (nI (nn 0 5 + 1)), u2 w 22 0 (nI (nn 0 5 + 1)), n2 (n2 nn 10 (nn 0 5) 0) 0 5 (nn 0 5 + 1), lo, tr, wt, ?_, ?_, (hX.n (by simp [dX]; omega)).n rfl, ?_, ?_, KE.rfl.mono (by omega) (by omega)⟩
    · unfold fX7_openSession
      have e : fX2_forgetEvents (c.1 10 (nn 0 5)) (qE c lg z w) = some ((), qE c lg (u2 z 10 (nn 0 5) (nI 0)) w) := by
        unfold fX2_forgetEvents
        rw [eP1 hW _ _ _ _ _ hs6]; rfl
      rw [xI5 hW, hX.2.1 0 5 rfl, jr_t (show nI (nn 0 5) < (6 : Int32) from nI_lt (b := 6) hs6 (by omega)), xR1 hW, xI5 hW, hX.2.1 0 5 rfl, eG hW _ _ _ _ hs6, eO hW _ _ _ _ hs6, jr_bd e, xI5 hW, u2_k (by decide), hX.2.1 0 5 rfl, nI_1, xP5 hW, eI0 hW _ _ _ _ hs6]; rfl
    · unfold fX8_openSession
      rw [mI22 hW, hM.1.1.2.2.2.2.2.2, jr_f (show ¬ nI (nn 0 5) = 6 from fun q => h6 ((nI_eq (b := 6) (by omega) (by omega)).mp q)), mI22 hW, hM.1.1.2.2.2.2.2.2, nI_1, mP22 hW, mI22 hW, u2_s, nI_sub1 (by omega)]; rfl
    · obtain ⟨⟨⟨a0, a1, a2, a3, a4, a5, a6⟩, a7⟩, h2, h3, h4, h5, h6'⟩ := hM
      refine ⟨⟨⟨?_, ?_, ?_, ?_, ?_, ?_, ?_⟩, fun i hi => ?_⟩, fun i hi => (h2 i hi).fr (fun f q1 q2 => u2_k (by omega)), fun i hi => (h3 i hi).fr (fun f q1 q2 => u2_k (by omega)), h4.fr (fun f q1 q2 => u2_k (by omega)), ⟨fun k hk => ?_, fun j hj => ?_⟩, ?_⟩
      · rw [u2_k (by decide), k0 4 (by decide)]; exact a0
      · rw [u2_k (by decide), k0 6 (by decide)]; exact a1
      · rw [u2_k (by decide), k0 7 (by decide)]; exact a2
      · rw [u2_k (by decide), k0 8 (by decide)]; exact a3
      · rw [u2_k (by decide), k0 9 (by decide)]; exact a4
      · rw [u2_k (by decide), k0 11 (by decide)]; exact a5
      · rw [u2_s, n2_s]
      · simp only [u2_k (show (1 : Nat) ≠ 22 by decide), u2_k (show (2 : Nat) ≠ 22 by decide), u2_k (show (3 : Nat) ≠ 22 by decide), u2_k (show (4 : Nat) ≠ 22 by decide), kk 1 _ (by decide) (by decide), kk 2 _ (by decide) (by decide), kk 3 _ (by decide) (by decide), kk 4 _ (by decide) (by decide), k0 4 (by decide)]
        exact a7 i hi
      · rw [u2_k (by decide), n2_s, n2_k (show (10 : Nat) ≠ 0 by decide)]
        have e := h5.1 k hk
        by_cases q : k = nn 0 5
        · subst q
          rw [if_neg (by omega)] at e
          rw [if_pos (by omega), n2_s]
          exact e
        · rw [n2_i q, e]
          by_cases q2 : k < nn 0 5
          · rw [if_pos q2, if_pos (by omega)]
          · rw [if_neg q2, if_neg (by omega)]
      · rw [u2_k (by decide), kk 11 _ (by decide) (by decide)]
        exact h5.2 j hj
      · rw [k0 10 (by decide), k0 11 (by decide)]
        exact h6'.fr (u2_k (by decide))
    · obtain ⟨⟨b1, b2, b3, b4, b5, b6⟩, i2, i3, ⟨i4, i5, i6⟩, i7, i8, i9, i10⟩ := hI.succ
      refine ⟨⟨by rw [k0 4 (by decide)]; exact b1, by rw [k0 4 (by decide)]; exact b2, by rw [n2_s]; omega, by rw [k0 10 (by decide)]; exact b4, by rw [k0 10 (by decide), k0 11 (by decide)]; exact b5, by rw [k0 11 (by decide)]; exact b6⟩, ?_, ?_, ⟨?_, ?_, ?_⟩, ?_, ?_, ?_, i10⟩
      · simp only [kk 1 _ (by decide) (by decide), kk 2 _ (by decide) (by decide), kk 3 _ (by decide) (by decide), k0 4 (by decide), k0 7 (by decide)]; exact i2
      · simp only [kk 2 _ (by decide) (by decide), k0 6 (by decide)]; exact i3
      · refine ⟨i4.1, fun v hv => ?_⟩
        have := i4.2 v hv
        rw [n2_s]
        exact ⟨this.1, by omega, by omega, this.2.2.2⟩
      · intro k hk
        rw [n2_k (by decide)]
        by_cases q : k = nn 0 5
        · subst q
          rw [n2_s]
          have := i5 (nn 0 5) hs6
          omega
        · rw [n2_i q]
          exact i5 k hk
      · rw [k0 7 (by decide)]; exact i6
      · simp only [kk 4 _ (by decide) (by decide), k0 9 (by decide)]; exact i7
      · simp only [kk 3 _ (by decide) (by decide), kk 4 _ (by decide) (by decide), k0 4 (by decide), k0 6 (by decide), k0 7 (by decide), k0 8 (by decide), k0 9 (by decide), qm]; exact i8
      · simp only [k0 7 (by decide), k0 8 (by decide)]; exact i9
end C2
