/-! ===== an election, both sides ===== -/
section EZ
variable {c : CX} {lg : LG} {z w : ZZ} {N : Nat} {nn : NN} {lo : Nat → List TX} {tr : Nat → List ND} {wt : List WT}
def nnC (n0 nn : NN) (E j : Nat) : NN := fun k i => if k = 3 ∧ i < j ∧ nn 1 i = 1 then E else n0 k i
theorem nnC_s {n0 : NN} {E j : Nat} (h : nn 1 j = 1) : n2 (nnC n0 nn E j) 3 j E = nnC n0 nn E (j + 1) := by
  funext k i
  unfold n2 nnC
  by_cases e : i = j
  · subst e
    by_cases h2 : k = 3
    · subst h2; simp [h]
    · simp [h2]
  · have h1 : (i < j + 1) = (i < j) := by simp; omega
    simp [e, h1]
theorem nnC_n {n0 : NN} {E j : Nat} (h : nn 1 j ≠ 1) : nnC n0 nn E (j + 1) = nnC n0 nn E j := by
  funext k i
  unfold nnC
  by_cases e : i = j
  · subst e; simp [h]
  · have h1 : (i < j + 1) = (i < j) := by simp; omega
    simp [h1]
theorem nnC_k {n0 : NN} {E j k i : Nat} (h : k ≠ 3) : nnC n0 nn E j k i = n0 k i := by simp [nnC, h]
theorem m_el_c {n0 : NN} {E M : Nat} (hW : qW c lg) (hM5 : M ≤ 5) (h4 : n0 0 4 = M) (h7 : n0 0 7 = E) (ha : ∀ i, i < M → n0 2 i = if nn 1 i = 1 then 1 else 0) : ∀ n j (w : ZZ), j + n = M → RM w (nnC n0 nn E j) lo tr wt → ∀ f, n < f → ∃ w', fX8_elect_245 f (c.1 20 0) (nI j) (qE c lg z w) = fX8_elect_280 4096 (c.1 20 0) 0 (qE c lg z w') ∧ RM w' (nnC n0 nn E M) lo tr wt := by
  intro n
  induction n with
  | zero =>
    intro j w hj hM f hf
    obtain ⟨f, rfl⟩ : ∃ k', f = k' + 1 := ⟨f - 1, by omega⟩
    have e : j = M := by omega
    subst e
    refine ⟨w, ?_, hM⟩
    rw [fX8_elect_245, mI0 hW, hM.1.1.1, nnC_k (by decide), h4, jr_t (nI_le (Nat.le_refl _) (by omega))]
  | succ n ih =>
    intro j w hj hM f hf
    obtain ⟨f, rfl⟩ : ∃ k', f = k' + 1 := ⟨f - 1, by omega⟩
    have hj5 : j < 5 := by omega
    rw [fX8_elect_245, mI0 hW, hM.1.1.1, nnC_k (by decide), h4, jr_f (nI_ge (by omega) (by omega)), mR2 hW, mG2 hW _ _ _ _ hj5, (hM.1.2 j hj5).2.1, nnC_k (by decide), ha j (by omega)]
    by_cases q : nn 1 j = 1
    · have hM1 := hM.sv (k := 3) (i := j) (v := E) (by omega) (by omega)
      rw [nnC_s q] at hM1
      obtain ⟨w', e1, e2⟩ := ih (j + 1) _ (by omega) hM1 f (by omega)
      refine ⟨w', ?_, e2⟩
      rw [if_pos q, jr_f (by decide +kernel), mR3 hW, mI6 hW, hM.1.1.2.2.1, nnC_k (by decide), h7, mS3 hW _ _ _ _ _ hj5, nI_1]
      exact e1
    · rw [if_neg q, jr_t (show nI 0 = 0 from rfl), nI_1]
      exact ih (j + 1) w (by omega) (by rw [nnC_n q]; exact hM) f (by omega)
theorem aps_ext {q : NN × (Nat → List ND) × List WT} {n : Nat} : ∀ k, (∀ j, n ≤ j → j < n + k → (aps lo j q).1 2 j ≠ 1) → aps lo (n + k) q = aps lo n q := by
  intro k
  induction k with
  | zero => intro _; rfl
  | succ k ih =>
    intro h
    have e : aps lo (n + (k + 1)) q = aps lo (n + k) q := if_neg (h (n + k) (by omega) (by omega))
    rw [e]
    exact ih (fun j h1 h2 => h j h1 (by omega))
theorem aps_04 {q : NN × (Nat → List ND) × List WT} : ∀ j i, (aps lo j q).1 0 i = q.1 0 i := by
  intro j
  induction j with
  | zero => intro i; rfl
  | succ j ih =>
    intro i
    simp only [aps]
    split
    · show (apl _ _ _ _ _).1 0 i = _
      rw [apl_k _ _ _ 0 i (by decide) (by decide) (by simp)]
      exact ih i
    · exact ih i
theorem m_el_d {g M : Nat} {R : NN × (Nat → List ND) × List WT} (hW : qW c lg) (hI : INV N nn lo tr wt) (hN : N < 900) (hM5 : M ≤ 5) (h4 : nn 0 4 = M) (h6 : nn 0 6 = g) (hR : aps lo M (nn, tr, wt) = R) : ∀ n j (w : ZZ), j + n = M → RM w (aps lo j (nn, tr, wt)).1 lo (aps lo j (nn, tr, wt)).2.1 (aps lo j (nn, tr, wt)).2.2 → ∀ f, n < f → ∃ w', fX8_elect_280 f (c.1 20 0) (nI j) (qE c lg z w) = some (nI g, qE c lg z w') ∧ RM w' R.1 lo R.2.1 R.2.2 := by
  intro n
  induction n with
  | zero =>
    intro j w hj hM f hf
    obtain ⟨f, rfl⟩ : ∃ k', f = k' + 1 := ⟨f - 1, by omega⟩
    have e : j = M := by omega
    subst e
    have e0 : (aps lo j (nn, tr, wt)).1 0 4 = j := (aps_04 j 4).trans h4
    have e6 : (aps lo j (nn, tr, wt)).1 0 6 = g := (aps_04 j 6).trans h6
    refine ⟨w, ?_, by rw [hR] at hM; exact hM⟩
    rw [fX8_elect_280, mI0 hW, hM.1.1.1, e0, jr_t (nI_le (Nat.le_refl _) (by omega)), mI5 hW, hM.1.1.2.1, e6]; rfl
  | succ n ih =>
    intro j w hj hM f hf
    obtain ⟨f, rfl⟩ : ∃ k', f = k' + 1 := ⟨f - 1, by omega⟩
    have hj5 : j < 5 := by omega
    have hIj := INV_aps hI hN j (by omega)
    have e0 : (aps lo j (nn, tr, wt)).1 0 4 = M := (aps_04 j 4).trans h4
    have e := ih (j + 1)
    simp only [aps] at e
    generalize hq : aps lo j (nn, tr, wt) = q at *
    have h2 := (hIj.2.1 j hj5).2.1
    rw [fX8_elect_280, mI0 hW, hM.1.1.1, e0, jr_f (nI_ge (by omega) (by omega)), mR2 hW, mG2 hW _ _ _ _ hj5, (hM.1.2 j hj5).2.1]
    by_cases h : q.1 2 j = 1
    · rw [if_pos h] at e
      obtain ⟨a1, a2, a3, a4, a5⟩ := hIj.2.2.2.2.1 j hj5
      have hcm : q.1 0 9 < 2 ^ 31 := by
        obtain ⟨g', q1, -, q3, -⟩ := hIj.2.2.2.2.2.1
        have := hIj.ll g' q1
        omega
      obtain ⟨w1, f1, f2⟩ := m_go (z := z) hW hM hj5 a1 a2 hcm a3 hIj.tl (hIj.CB (by omega)) (by omega)
      obtain ⟨w2, g1, g2⟩ := e w1 (by omega) f2 f (by omega)
      refine ⟨w2, ?_, g2⟩
      rw [jr_f (fun e => by have := (nI_e0 (by omega)).mp e; omega), mI8 hW, hM.1.1.2.2.2.2.1, mO hW, jr_bd f1, nI_1]
      exact g1
    · rw [if_neg h] at e
      rw [jr_t (by rw [show q.1 2 j = 0 by omega]; rfl), nI_1]
      exact e w (by omega) hM f (by omega)
theorem m_elect {g : Nat} (hW : qW c lg) (hM : RM w nn lo tr wt) (hI : INV N nn lo tr wt) (hN : N < 600) (hl : nn 0 6 = 4294967288) (hq : qm nn ≤ cn (fun i => decide (nn 1 i ≠ 0)) 5) (hb : bst nn lo 5 = some g) : ∃ w', fX8_elect (c.1 20 0) (qE c lg z w) = some (nI g, qE c lg z w') ∧ RM w' (aps (loE nn lo g) 5 (nnE nn g (lo g).length, va_up tr 5 (rp (lo g)), wt)).1 (loE nn lo g) (aps (loE nn lo g) 5 (nnE nn g (lo g).length, va_up tr 5 (rp (lo g)), wt)).2.1 (aps (loE nn lo g) 5 (nnE nn g (lo g).length, va_up tr 5 (rp (lo g)), wt)).2.2 := by
  have hn := hI.1.2.1
  obtain ⟨hg, hup, hbest⟩ := bst_some hb
  have hno : ∀ i, i < 5 → nn 2 i = 0 := by
    rcases hI.2.2.1 with q | ⟨q, -⟩
    · exact q.2
    · omega
  have hu : ∀ i, i < 5 → nn 1 i ≤ 1 := fun i hi => (hI.2.1 i hi).1
  have hz : ∀ i, i < 5 → nn 0 4 ≤ i → nn 1 i = 0 := fun i hi => (hI.2.1 i hi).2.2.1
  have hgn : g < nn 0 4 := by
    by_cases q : nn 0 4 ≤ g
    · have := hz g hg q; omega
    · omega
  have h3 : ∀ i, i < 5 → nn 3 i < 2 ^ 31 := fun i hi => by
    have := (hI.2.1 i hi).2.2.2.2
    have := hI.2.2.2.1.2.2
    omega
  have hid : ∀ i, i < 5 → nid (lo i) < 2 ^ 31 := fun i hi => by
    unfold nid
    cases hx : (lo i).getLast? with
    | none => simp
    | some x =>
      simp only
      have hm := List.mem_of_getLast? hx
      obtain ⟨k, hk⟩ := List.getElem?_of_mem hm
      have := ((hI.2.2.2.2.1 i hi).2.1 k x hk).1
      omega
  have hIE := hI.el hl hg hup hq (fun i hi h => hbest i hi h)
  have hb4 : bst nn lo (nn 0 4) = some g := by
    have e := bst_ext (nn := nn) (lo := lo) (n := nn 0 4) (5 - nn 0 4) (fun j h1 h2 => by have := hz j (by omega) h1; omega)
    rw [show nn 0 4 + (5 - nn 0 4) = 5 by omega] at e
    rw [← e]; exact hb
  -- the choice
  have hM0 : RM (u2 w 6 0 (nI 0)) (n2 (n2 nn 0 6 (eo (bst nn lo 0))) 0 7 (mo nn (bst nn lo 0))) lo tr wt := by
    have e : n2 nn 0 6 (eo (bst nn lo 0)) = nn := by
      show n2 nn 0 6 4294967288 = nn
      rw [← hl, n2_self]
    rw [e]
    exact hM.sc (a := 6) (b := 7) (v := 0) (by decide)
  obtain ⟨w1, a1, a2⟩ := m_el_a (z := z) hW hn hb4 hu hI.ll h3 hid (nn 0 4) 0 _ (by omega) hM0 4096 (by omega)
  have a3 := (a2.sc (a := 6) (b := 7) (v := nn 3 g + 1) (by decide)).sc (a := 7) (b := 8) (v := 0) (by decide)
  rw [n2_n2] at a3
  have hA0 : nnA (n2 (n2 (n2 nn 0 6 g) 0 7 (nn 3 g + 1)) 0 8 0) nn g 0 = n2 (n2 (n2 nn 0 6 g) 0 7 (nn 3 g + 1)) 0 8 0 := by
    funext k i
    simp [nnA]
  have hL0 : loP nn lo g 0 = lo := by
    funext i
    simp [loP]
  obtain ⟨w2, b1, b2⟩ := m_el_b (z := z) (n0 := n2 (n2 (n2 nn 0 6 g) 0 7 (nn 3 g + 1)) 0 8 0) hW hI hg (fun i => by rw [n2_k (by decide), n2_k (by decide), n2_k (by decide)]) (by rw [n2_i (by decide), n2_i (by decide), n2_i (by decide)]) (by rw [n2_i (by decide), n2_i (by decide), n2_s]) (nn 0 4) 0 _ (by omega) (by rw [hA0, hL0]; exact a3) 4096 (by omega)
  have hLE : loP nn lo g (nn 0 4) = loE nn lo g := by
    funext i
    unfold loP loE
    by_cases q : i < 5 ∧ nn 1 i = 1
    · have : i < nn 0 4 := by
        by_cases r : nn 0 4 ≤ i
        · have := hz i q.1 r; omega
        · omega
      rw [if_pos q, if_pos ⟨this, q.2⟩]
    · rw [if_neg q, if_neg (fun r => q ⟨by omega, r.2⟩)]
  have hC0 : ∀ (m : NN) (E : Nat), nnC m nn E 0 = m := fun m E => by
    funext k i
    simp [nnC]
  generalize hn0 : n2 (n2 (nnA (n2 (n2 (n2 nn 0 6 g) 0 7 (nn 3 g + 1)) 0 8 0) nn g (nn 0 4)) 2 g 1) 0 9 (lo g).length = n0 at *
  have v0 : ∀ i, n0 0 i = if i = 9 then (lo g).length else if i = 8 then 0 else if i = 7 then nn 3 g + 1 else if i = 6 then g else nn 0 i := fun i => by
    rw [← hn0]
    by_cases h9 : i = 9
    · subst h9; rw [n2_s, if_pos rfl]
    · rw [n2_i h9, n2_k (by decide), nnA_k (by decide), if_neg h9]
      by_cases h8 : i = 8
      · subst h8; rw [n2_s, if_pos rfl]
      · rw [n2_i h8, if_neg h8]
        by_cases h7 : i = 7
        · subst h7; rw [n2_s, if_pos rfl]
        · rw [n2_i h7, if_neg h7]
          by_cases h6 : i = 6
          · subst h6; rw [n2_s, if_pos rfl]
          · rw [n2_i h6, if_neg h6]
  have v2 : ∀ i, i < 5 → n0 2 i = if nn 1 i = 1 then 1 else 0 := fun i hi => by
    rw [← hn0, n2_k (by decide)]
    by_cases e : i = g
    · subst e; rw [n2_s, if_pos hup]
    · rw [n2_i e]
      unfold nnA
      by_cases q : nn 1 i = 1
      · have : i < nn 0 4 := by
          by_cases r : nn 0 4 ≤ i
          · have := hz i hi r; omega
          · omega
        rw [if_pos ⟨rfl, this, q, e⟩, if_pos q]
      · rw [if_neg (fun r => q r.2.2.1), if_neg q, n2_k (by decide), n2_k (by decide), n2_k (by decide)]
        exact hno i hi
  have vk : ∀ k i, k ≠ 0 → k ≠ 2 → n0 k i = nn k i := fun k i h0 h2 => by
    rw [← hn0, n2_k h0, n2_k h2, nnA_k h2, n2_k h0, n2_k h0, n2_k h0]
  have v2' : ∀ i, ¬ i < 5 → n0 2 i = nn 2 i := fun i hi => by
    rw [← hn0, n2_k (by decide), n2_i (by omega)]
    unfold nnA
    rw [if_neg (fun r => by omega), n2_k (by decide), n2_k (by decide), n2_k (by decide)]
  obtain ⟨w3, d1, d2⟩ := m_el_c (z := z) (n0 := n0) (nn := nn) (E := nn 3 g + 1) (M := nn 0 4) hW hn (by rw [v0]; rfl) (by rw [v0]; rfl) (fun i hi => v2 i (by omega)) (nn 0 4) 0 w2 (by omega) (by rw [hC0]; exact b2) 4096 (by omega)
  have hCE : nnC n0 nn (nn 3 g + 1) (nn 0 4) = nnE nn g (lo g).length := by
    funext k i
    unfold nnC nnE
    by_cases h0 : k = 0
    · subst h0
      rw [if_neg (by simp), if_pos rfl, v0]
      by_cases h6 : i = 6
      · subst h6; rfl
      · by_cases h7 : i = 7
        · subst h7; rfl
        · by_cases h8 : i = 8
          · subst h8; rfl
          · simp [h6, h7, h8]
    · rw [if_neg h0]
      by_cases h3 : k = 3
      · subst h3
        rw [if_neg (show ¬ ((3 : Nat) = 2 ∧ i < 5 ∧ nn 1 i = 1) by simp)]
        by_cases q : i < 5 ∧ nn 1 i = 1
        · have : i < nn 0 4 := by
            by_cases r : nn 0 4 ≤ i
            · have := hz i q.1 r; omega
            · omega
          rw [if_pos ⟨rfl, this, q.2⟩, if_pos ⟨rfl, q.1, q.2⟩]
        · rw [if_neg (fun r => q ⟨by omega, r.2.2⟩), if_neg (fun r => q r.2), vk 3 i (by decide) (by decide)]
      · rw [if_neg (fun r => h3 r.1)]
        by_cases h2 : k = 2
        · subst h2
          by_cases hi : i < 5
          · rw [v2 i hi]
            by_cases q : nn 1 i = 1
            · rw [if_pos q, if_pos ⟨rfl, hi, q⟩]
            · rw [if_neg q, if_neg (fun r => q r.2.2), if_neg (fun r => h3 r.1), hno i hi]
          · rw [if_neg (fun r => hi r.2.1), if_neg (fun r => h3 r.1), v2' i hi]
        · rw [if_neg (fun r => h2 r.1), if_neg (fun r => h3 r.1), vk k i h0 h2]
  rw [hCE, hLE] at d2
  have hMt : RM w3 (nnE nn g (lo g).length) (loE nn lo g) (va_up tr 5 (rp (lo g))) wt := d2.tr5
  have hap : aps (loE nn lo g) 5 (nnE nn g (lo g).length, va_up tr 5 (rp (lo g)), wt) = aps (loE nn lo g) (nn 0 4) (nnE nn g (lo g).length, va_up tr 5 (rp (lo g)), wt) := by
    have e := aps_ext (lo := loE nn lo g) (q := (nnE nn g (lo g).length, va_up tr 5 (rp (lo g)), wt)) (n := nn 0 4) (5 - nn 0 4) (fun j h1 h2 => by
      have hj := INV_aps hIE (by omega) j (by omega)
      have e4 := aps_04 (lo := loE nn lo g) (q := (nnE nn g (lo g).length, va_up tr 5 (rp (lo g)), wt)) j 4
      have := INV_z2 hj j (by omega) (by rw [e4]; exact h1)
      omega)
    rw [show nn 0 4 + (5 - nn 0 4) = 5 by omega] at e
    exact e
  obtain ⟨w4, f1, f2⟩ := m_el_d (z := z) (g := g) (M := nn 0 4) hW hIE (by omega) hn rfl rfl hap.symm (nn 0 4) 0 w3 (by omega) hMt 4096 (by omega)
  refine ⟨w4, ?_, f2⟩
  have hc5 := cn_le (fun i => decide (nn 1 i ≠ 0)) 5
  unfold fX8_elect
  rw [mI5 hW, hM.1.1.2.1, hl, ← m8_, jr_t rfl, mO hW, jr_bd (m_ups hW hM hn hu hz), mO hW, jr_bd (m_quo hW hM hn), jr_t (nI_le hq (by omega)), mP6 hW]
  refine a1.trans ?_
  rw [mI6 hW, a2.1.1.2.2.1, n2_s, show mo nn (some g) = nn 3 g from rfl, nI_1, mP6 hW, mP7 hW]
  exact b1.trans (d1.trans f1)
theorem p_elect (hX : RX c lg z nn lo tr wt) (hM : RM w nn lo tr wt) (hI : INV N nn lo tr wt) (hN : N < 600) : GO fX7_elect fX8_elect c lg z w N := by
  have hW := hX.1
  have hn := hI.1.2.1
  have hu : ∀ i, i < 5 → nn 1 i ≤ 1 := fun i hi => (hI.2.1 i hi).1
  have hz : ∀ i, i < 5 → nn 0 4 ≤ i → nn 1 i = 0 := fun i hi => (hI.2.1 i hi).2.2.1
  have hc5 := cn_le (fun i => decide (nn 1 i ≠ 0)) 5
  have hq3 : qm nn ≤ 3 := by unfold qm; omega
  rcases hI.2.2.1 with ⟨l1, l2⟩ | ⟨l1, l2, l3⟩
  · by_cases hq : qm nn ≤ cn (fun i => decide (nn 1 i ≠ 0)) 5
    · have hex : ∃ g, bst nn lo 5 = some g := by
        cases hb : bst nn lo 5 with
        | some g => exact ⟨g, rfl⟩
        | none =>
          exfalso
          have h1 := cn_mono (f := fun i => decide (nn 1 i ≠ 0)) (g := fun _ => false) 5 (fun j hj q => by
            simp only [decide_eq_true_eq] at q
            have := bst_none hb j hj
            have := hu j hj
            omega)
          have h2 : cn (fun _ => false) 5 = 0 := rfl
          have : 1 ≤ qm nn := by unfold qm; omega
          omega
      obtain ⟨g, hb⟩ := hex
      obtain ⟨c', lg', z', e1, e2, e3, e4⟩ := x_elect w hX hI hN l1 hq hb
      obtain ⟨w', f1, f2⟩ := m_elect (z := z') e2.1 hM hI hN l1 hq hb
      exact ⟨nI g, c', lg', z', w', _, _, _, _, e1, f1, e2, f2, e3, e4⟩
    · refine GO.read (v := -2) hX hM hI ?_ ?_
      · unfold fX7_elect
        rw [xR6 hW, hX.2.1 0 6 rfl, l1, chf_n, jr_t rfl, xO hW, jr_bd (x_ups hX hu), xO hW, jr_bd (x_quo hX hn), jr_f (nI_ge (by omega) (by omega))]; rfl
      · unfold fX8_elect
        rw [mI5 hW, hM.1.1.2.1, l1, ← m8_, jr_t rfl, mO hW, jr_bd (m_ups hW hM hn hu hz), mO hW, jr_bd (m_quo hW hM hn), jr_f (nI_ge (by omega) (by omega))]; rfl
  · refine GO.read (v := -2) hX hM hI ?_ ?_
    · unfold fX7_elect
      rw [xR6 hW, hX.2.1 0 6 rfl, chf_s l1, jr_f (by simp)]; rfl
    · unfold fX8_elect
      rw [mI5 hW, hM.1.1.2.1, jr_f (ldn l1)]; rfl
end EZ
