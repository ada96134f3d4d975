/-! ===== crash ===== -/
def wd (s : Nat) (l : List WT) : List WT := l.filter (fun v => !(v.1 == s))
def nap (j : Nat) (nn : NN) : NN := fun k i => if k = 2 ∧ i < j then 0 else nn k i
theorem nap_s (j : Nat) (nn : NN) : n2 (nap j nn) 2 j 0 = nap (j + 1) nn := by
  funext k i
  unfold n2 nap
  by_cases h1 : k = 2
  · by_cases h2 : i = j
    · rw [if_pos ⟨h1, h2⟩, if_pos ⟨h1, by omega⟩]
    · rw [if_neg (fun q => h2 q.2)]
      by_cases h3 : i < j
      · rw [if_pos ⟨h1, h3⟩, if_pos ⟨h1, by omega⟩]
      · rw [if_neg (fun q => h3 q.2), if_neg (fun q => by omega)]
  · rw [if_neg (fun q => h1 q.1), if_neg (fun q => h1 q.1), if_neg (fun q => h1 q.1)]
theorem nap_0 (nn : NN) : nap 0 nn = nn := by
  funext k i
  unfold nap
  rw [if_neg (fun q => by omega)]
theorem nap_k {j k i : Nat} {nn : NN} (h : k ≠ 2) : nap j nn k i = nn k i := if_neg (fun q => h q.1)
theorem nap_2 {j i : Nat} {nn : NN} (h : i < j) : nap j nn 2 i = 0 := if_pos ⟨rfl, h⟩
section CR
variable {c : CX} {lg : LG} {z w : ZZ} {N : Nat} {nn : NN} {lo : Nat → List TX} {tr : Nat → List ND} {wt : List WT}
theorem x_drop_l {s : Nat} (hs : s < 5) : ∀ n (l1 l2 : List WT) (lg : LG) (z : ZZ), l1.length = n → RX c lg z nn lo tr (l1 ++ l2) → n ≤ 10 → (∀ v, v ∈ l1 → v.1 < 5) → ∀ f, n < f → ∃ lg' z', fX6_dropAllOf_10 f (c.1 12 0) (nI s) (nI n + (-1)) (qE c lg z w) = some ((), qE c lg' z' w) ∧ RX c lg' z' nn lo tr (wd s l1 ++ l2) := by
  intro n
  induction n with
  | zero =>
    intro l1 l2 lg z hn h hl hv f hf
    obtain ⟨f, rfl⟩ : ∃ k', f = k' + 1 := ⟨f - 1, by omega⟩
    have e : l1 = [] := List.eq_nil_of_length_eq_zero hn
    subst e
    refine ⟨lg, z, ?_, h⟩
    rw [fX6_dropAllOf_10, jr_t nI_m1]
    rfl
  | succ n ih =>
    intro l1 l2 lg z hn h hl hv f hf
    obtain ⟨f, rfl⟩ : ∃ k', f = k' + 1 := ⟨f - 1, by omega⟩
    obtain ⟨l, v, rfl⟩ : ∃ l v, l1 = l ++ [v] := ⟨l1.dropLast, l1.getLast (by intro q; subst q; simp at hn), (List.dropLast_concat_getLast _).symm⟩
    have hln : l.length = n := by simpa using hn
    have hW := h.1
    have e0 : l ++ [v] ++ l2 = l ++ v :: l2 := by simp
    rw [e0] at h
    have v1 := hv v (by simp)
    obtain ⟨a, b1, b2, b3, b4, b5⟩ := h.wa (j := n) (v := v) (by rw [List.getElem?_append_right (by omega), hln]; simp)
    rw [fX6_dropAllOf_10, pk_m1, jr_f (nI_pos (by omega)), yR hW, lO hW _ _ _ _ (by omega), jr_bd (b1 w), vC _ _ _ _ b2, vI0 _ _ _ _ b2, b3]
    by_cases hm : v.1 = s
    · obtain ⟨r, lg', z', e1, e2, -⟩ := h.wdel (w := w)
      rw [hln] at e1
      rw [jr_t (by rw [hm]), yR hW, lO hW _ _ _ _ (by omega), jr_bd e1]
      obtain ⟨lg2, z2, f1, f2⟩ := ih l l2 lg' z' hln e2 (by omega) (fun u hu => hv u (by simp [hu])) f (by omega)
      refine ⟨lg2, z2, f1, ?_⟩
      have e3 : wd s (l ++ [v]) = wd s l := by simp [wd, List.filter_append, hm]
      rw [e3]
      exact f2
    · rw [jr_f (fun q => hm ((nI_eq (by omega) (by omega)).mp q))]
      obtain ⟨lg2, z2, f1, f2⟩ := ih l (v :: l2) lg z hln h (by omega) (fun u hu => hv u (by simp [hu])) f (by omega)
      refine ⟨lg2, z2, f1, ?_⟩
      have e3 : wd s (l ++ [v]) = wd s l ++ [v] := by
        rw [wd, wd, List.filter_append]
        congr 1
        exact List.filter_cons_of_pos (p := fun v : WT => !(v.1 == s)) (by simp [hm])
      rw [e3]
      simpa using f2
theorem x_drop {s : Nat} (hX : RX c lg z nn lo tr wt) (hv : WV nn wt) (hs : s < 5) : ∃ lg' z', fX6_dropAllOf (c.1 12 0) (nI s) (qE c lg z w) = some ((), qE c lg' z' w) ∧ RX c lg' z' nn lo tr (wd s wt) := by
  have hl := hv.1
  obtain ⟨lg', z', e1, e2⟩ := x_drop_l (w := w) hs wt.length wt [] lg z rfl (by rw [List.append_nil]; exact hX) hl (fun v q => (hv.2 v q).1) 4096 (by omega)
  rw [List.append_nil] at e2
  refine ⟨lg', z', ?_, e2⟩
  unfold fX6_dropAllOf
  rw [yR hX.1, lO hX.1 _ _ _ _ (by omega), lS hX.1 _ _ _ _ (by omega), hX.len.1, Int32.sub_eq_add_neg]
  exact e1
theorem x_end_l {nn0 : NN} : ∀ n j (z : ZZ), j + n = 5 → RX c lg z (nap j nn0) lo tr wt → ∀ f, n < f → ∃ z', fX7_endLeadership_15 f (some (c.1 1 0)) (nI 5) (nI j) (qE c lg z w) = some ((), qE c lg z' w) ∧ RX c lg z' (nap 5 nn0) lo tr wt := by
  intro n
  induction n with
  | zero =>
    intro j z hj h f hf
    obtain ⟨f, rfl⟩ : ∃ k', f = k' + 1 := ⟨f - 1, by omega⟩
    refine ⟨z, ?_, by rw [show 5 = j by omega]; exact h⟩
    rw [fX7_endLeadership_15, jr_t (nI_le (by omega) (by omega))]; rfl
  | succ n ih =>
    intro j z hj h f hf
    obtain ⟨f, rfl⟩ : ∃ k', f = k' + 1 := ⟨f - 1, by omega⟩
    have hj5 : j < 5 := by omega
    have h1 := h.n (k := 2) (i := j) (v := 0) (by simp [dX, hj5])
    rw [nap_s] at h1
    obtain ⟨z', e1, e2⟩ := ih (j + 1) _ (by omega) h1 f (by omega)
    refine ⟨z', ?_, e2⟩
    rw [fX7_endLeadership_15, jr_f (nI_ge (by omega) (by omega)), xSg h.1 _ _ _ _ hj5, jZ0, sP4 h.1 _ _ _ _ _ hj5, nI_1]
    exact e1
theorem x_end (hX : RX c lg z nn lo tr wt) : ∃ z', fX7_endLeadership (c.1 0 0) (qE c lg z w) = some ((), qE c lg z' w) ∧ RX c lg z' (nap 5 (n2 nn 0 6 4294967288)) lo tr wt := by
  have h1 := hX.n (k := 0) (i := 6) (v := 4294967288) rfl
  obtain ⟨z', e1, e2⟩ := x_end_l (w := w) (nn0 := n2 nn 0 6 4294967288) 5 0 _ (by omega) (by rw [nap_0]; exact h1) 4096 (by omega)
  refine ⟨z', ?_, e2⟩
  unfold fX7_endLeadership
  rw [xP6n hX.1, xR0 hX.1, xSl hX.1]
  exact e1
theorem m_nol_l {nn0 : NN} (hW : qW c lg) : ∀ n j (w : ZZ), j + n = 5 → RM w (nap j nn0) lo tr wt → ∀ f, n < f → ∃ w', fX8_noLeader_8 f (c.1 20 0) (nI j) (qE c lg z w) = some ((), qE c lg z w') ∧ RM w' (nap 5 nn0) lo tr wt := by
  intro n
  induction n with
  | zero =>
    intro j w hj h f hf
    obtain ⟨f, rfl⟩ : ∃ k', f = k' + 1 := ⟨f - 1, by omega⟩
    refine ⟨w, ?_, by rw [show 5 = j by omega]; exact h⟩
    rw [fX8_noLeader_8, jr_t (show (5 : Int32) ≤ nI j from nI_le (a := 5) (by omega) (by omega))]; rfl
  | succ n ih =>
    intro j w hj h f hf
    obtain ⟨f, rfl⟩ : ∃ k', f = k' + 1 := ⟨f - 1, by omega⟩
    have hj5 : j < 5 := by omega
    have h1 := h.sv (k := 2) (i := j) (v := 0) (by omega) (by omega)
    rw [nap_s] at h1
    obtain ⟨w', e1, e2⟩ := ih (j + 1) _ (by omega) h1 f (by omega)
    refine ⟨w', ?_, e2⟩
    rw [fX8_noLeader_8, jr_f (show ¬ (5 : Int32) ≤ nI j from nI_ge (b := 5) (by omega) (by omega)), mR2 hW, jZ0, mS2 hW _ _ _ _ _ hj5, nI_1]
    exact e1
theorem m_nol (hW : qW c lg) (hM : RM w nn lo tr wt) : ∃ w', fX8_noLeader (c.1 20 0) (qE c lg z w) = some ((), qE c lg z w') ∧ RM w' (nap 5 (n2 nn 0 6 4294967288)) lo tr wt := by
  have h1 := hM.sc (a := 5) (b := 6) (v := 4294967288) (by decide)
  obtain ⟨w', e1, e2⟩ := m_nol_l (z := z) (nn0 := n2 nn 0 6 4294967288) hW 5 0 _ (by omega) (by rw [nap_0]; exact h1) 4096 (by omega)
  refine ⟨w', ?_, e2⟩
  unfold fX8_noLeader
  rw [m8_, mP5 hW]
  exact e1
theorem m_act_l (hW : qW c lg) (hM : RM w nn lo tr wt) (hn : nn 0 4 ≤ 5) (hb : ∀ i, i < 5 → nn 2 i ≤ 1) : ∀ n j, j + n = nn 0 4 → ∀ k, n < k → fX8_actives_4 k (c.1 20 0) (nI (cn (fun i => decide (nn 2 i ≠ 0 ∧ 0 ≤ (lo i).length)) j)) (nI j) (qE c lg z w) = some (nI (cn (fun i => decide (nn 2 i ≠ 0 ∧ 0 ≤ (lo i).length)) (nn 0 4)), qE c lg z w) := by
  intro n
  induction n with
  | zero =>
    intro j hj k hk
    obtain ⟨k, rfl⟩ : ∃ k', k = k' + 1 := ⟨k - 1, by omega⟩
    rw [fX8_actives_4, mI0 hW, hM.1.1.1, jr_t (nI_le (by omega) (by omega)), show j = nn 0 4 by omega]; rfl
  | succ n ih =>
    intro j hj k hk
    obtain ⟨k, rfl⟩ : ∃ k', k = k' + 1 := ⟨k - 1, by omega⟩
    have hj5 : j < 5 := by omega
    have e := ih (j + 1) (by omega) k (by omega)
    simp only [cn] at e
    have hbj := hb j hj5
    rw [fX8_actives_4, mI0 hW, hM.1.1.1, jr_f (nI_ge (by omega) (by omega)), mR2 hW, mG2 hW _ _ _ _ hj5, (hM.1.2 j hj5).2.1]
    by_cases q : nn 2 j = 0
    · rw [if_neg (by simp [q])] at e
      rw [jr_t (by rw [q]; rfl), nI_1, show ∀ a : Nat, nI a + 0 = nI (a + 0) from fun a => nI_add a 0]; exact e
    · rw [if_pos (by simp [q])] at e
      rw [jr_f (fun e => q ((nI_e0 (by omega)).mp e)), nI_1, nI_1]; exact e
theorem m_act (hW : qW c lg) (hM : RM w nn lo tr wt) (hn : nn 0 4 ≤ 5) (hb : ∀ i, i < 5 → nn 2 i ≤ 1) (hz : ∀ i, i < 5 → nn 0 4 ≤ i → nn 2 i = 0) : fX8_actives (c.1 20 0) (qE c lg z w) = some (nI (cq nn lo 0), qE c lg z w) := by
  have e : cq nn lo 0 = cn (fun i => decide (nn 2 i ≠ 0 ∧ 0 ≤ (lo i).length)) (nn 0 4) := cn_5 hn (fun j h1 h2 => by simp [hz j h2 h1])
  rw [e]
  exact m_act_l hW hM hn hb (nn 0 4) 0 (by omega) 4096 (by omega)
/-- the reference drops the watches of a server -/
theorem m_drop_l {s len : Nat} (hW : qW c lg) (hs : s < 5) (hlen : wt.length = len) (hl10 : len ≤ 10) (hv5 : ∀ v, v ∈ wt → v.1 < 5) : ∀ n j (L : List WT) (w : ZZ), j + n = len → L.length ≤ j → w 25 0 = nI len → (∀ q v, L[q]? = some v → MV w q v) → (∀ q v, j ≤ q → wt[q]? = some v → MV w q v) → ∀ k, n < k → ∃ w' n0, fX8_crash_40 k (c.1 20 0) (nI s) (nI L.length) (nI j) (qE c lg z w) = fX8_crash_40 (n0 + 1) (c.1 20 0) (nI s) (nI (L ++ wd s (wt.drop j)).length) (nI len) (qE c lg z w') ∧ w' 25 0 = nI len ∧ (∀ q v, (L ++ wd s (wt.drop j))[q]? = some v → MV w' q v) ∧ ∀ f, ¬ (26 ≤ f ∧ f ≤ 28) → w' f = w f := by
  intro n
  induction n with
  | zero =>
    intro j L w hj hL h25 hLv hwv k hk
    obtain ⟨k, rfl⟩ : ∃ k', k = k' + 1 := ⟨k - 1, by omega⟩
    refine ⟨w, k, ?_, h25, ?_, fun _ _ => rfl⟩
    · rw [List.drop_eq_nil_of_le (by omega), show j = len by omega]
      simp [wd]
    · rw [List.drop_eq_nil_of_le (by omega)]
      intro q v hq
      exact hLv q v (by simpa [wd] using hq)
  | succ n ih =>
    intro j L w hj hL h25 hLv hwv k hk
    obtain ⟨k, rfl⟩ : ∃ k', k = k' + 1 := ⟨k - 1, by omega⟩
    have hjl : j < wt.length := by omega
    have hg : wt[j]? = some wt[j] := List.getElem?_eq_getElem hjl
    obtain ⟨m1, m2, m3⟩ := hwv j _ (Nat.le_refl _) hg
    have v1 := hv5 wt[j] (List.getElem_mem hjl)
    rw [List.drop_eq_getElem_cons hjl]
    by_cases h1 : wt[j].1 = s
    · have e5 : wd s (wt[j] :: wt.drop (j + 1)) = wd s (wt.drop (j + 1)) := List.filter_cons_of_neg (p := fun v : WT => !(v.1 == s)) (by simp [h1])
      rw [e5]
      obtain ⟨w', n0, e1, e2, e3, e4⟩ := ih (j + 1) L w (by omega) (by omega) h25 hLv (fun q v q1 q2 => hwv q v (by omega) q2) k (by omega)
      refine ⟨w', n0, ?_, e2, e3, e4⟩
      rw [fX8_crash_40, mI25 hW, h25, jr_f (nI_ge (by omega) (by omega)), mR26 hW, mG26 hW _ _ _ _ (by omega), m1, jr_t (by rw [h1]), nI_1]
      exact e1
    · have e5 : wd s (wt[j] :: wt.drop (j + 1)) = wt[j] :: wd s (wt.drop (j + 1)) := List.filter_cons_of_pos (p := fun v : WT => !(v.1 == s)) (by simp [h1])
      rw [e5]
      have hkeep : ∀ q v, q ≠ L.length → MV w q v → MV (u2 (u2 (u2 w 26 L.length (nI wt[j].1)) 27 L.length (nI wt[j].2.1)) 28 L.length (nI (p7 wt[j].2.2))) q v := by
        intro q v hq hv
        have e : ∀ (w : ZZ) (k f : Nat) (x : Int32), u2 w k L.length x f q = w f q := fun w k f x => by unfold u2; rw [if_neg (fun q => hq q.2)]
        unfold MV
        rw [e, e, e, e, e, e, e, e, e]
        exact hv
      obtain ⟨w', n0, e1, e2, e3, e4⟩ := ih (j + 1) (L ++ [wt[j]]) (u2 (u2 (u2 w 26 L.length (nI wt[j].1)) 27 L.length (nI wt[j].2.1)) 28 L.length (nI (p7 wt[j].2.2))) (by omega) (by rw [List.length_append]; simp; omega) (by rw [u2_k (by decide), u2_k (by decide), u2_k (by decide)]; exact h25) (fun q v hq => by
          by_cases hq1 : q < L.length
          · rw [List.getElem?_append_left hq1] at hq
            exact hkeep q v (by omega) (hLv q v hq)
          · have hq2 := (List.getElem?_eq_some_iff.mp hq).1
            rw [List.length_append] at hq2
            have hq3 : q = L.length := by simp at hq2; omega
            subst hq3
            simp at hq
            subst hq
            unfold MV
            rw [u2_k (show (26 : Nat) ≠ 28 by decide), u2_k (show (26 : Nat) ≠ 27 by decide), u2_s, u2_k (show (27 : Nat) ≠ 28 by decide), u2_s, u2_s]
            exact ⟨rfl, rfl, rfl⟩) (fun q v hq1 hq2 => hkeep q v (by omega) (hwv q v (by omega) hq2)) k (by omega)
      have ea : L ++ wt[j] :: wd s (wt.drop (j + 1)) = L ++ [wt[j]] ++ wd s (wt.drop (j + 1)) := by simp
      rw [ea]
      refine ⟨w', n0, ?_, e2, e3, fun f hf => by rw [e4 f hf, u2_k (by omega), u2_k (by omega), u2_k (by omega)]⟩
      rw [fX8_crash_40, mI25 hW, h25, jr_f (nI_ge (by omega) (by omega)), mR26 hW, mG26 hW _ _ _ _ (by omega), m1, jr_f (fun q => h1 ((nI_eq (by omega) (by omega)).mp q))]
      simp (disch := omega) only [↓mR26 hW, ↓mG26 hW, ↓mS26 hW, ↓mR27 hW, ↓mG27 hW, ↓mS27 hW, ↓mR28 hW, ↓mG28 hW, ↓mS28 hW, ↓mO hW, ↓jZ0, ↓jZ1, ↓jRt, nI_add, nI_1, n7, n8, n10, n12, n40, m1, m2, m3, u2_k]
      rw [List.length_append] at e1
      exact e1
/-- servers go down, watches go -/
theorem INV.dn {nn' : NN} {wt' : List WT} (h : INV N nn lo tr wt) (h0 : ∀ i, i ≠ 6 → nn' 0 i = nn 0 i) (hk : ∀ k i, k = 3 ∨ k = 4 ∨ k = 10 → nn' k i = nn k i) (h1 : ∀ i, i < 5 → nn' 1 i ≤ nn 1 i) (h2 : ∀ i, i < 5 → nn' 2 i = 0 ∨ (nn' 2 i = nn 2 i ∧ nn' 1 i = nn 1 i)) (h3 : (nn' 0 6 = 4294967288 ∧ ∀ i, i < 5 → nn' 2 i = 0) ∨ (nn' 0 6 = nn 0 6 ∧ nn 0 6 < 5 ∧ nn' 2 (nn 0 6) = 1)) (hw : wt'.length ≤ wt.length) (hw2 : ∀ v, v ∈ wt' → v ∈ wt) : INV N nn' lo tr wt' := by
  obtain ⟨⟨b1, b2, b3, b4, b5, b6⟩, i2, i3, ⟨i4, i5, i6⟩, i7, ⟨g, g1, g2, g3, g4, g5, g6, g7⟩, i9, i10⟩ := h
  have e4 := h0 4 (by decide)
  have e5 := h0 5 (by decide)
  have e7 := h0 7 (by decide)
  have e8 := h0 8 (by decide)
  have e9 := h0 9 (by decide)
  have e10 := h0 10 (by decide)
  have e11 := h0 11 (by decide)
  have k3 : ∀ i, nn' 3 i = nn 3 i := fun i => hk 3 i (by omega)
  have k4 : ∀ i, nn' 4 i = nn 4 i := fun i => hk 4 i (by omega)
  have k10 : ∀ i, nn' 10 i = nn 10 i := fun i => hk 10 i (by omega)
  unfold INV WV qm
  simp only [e4, e5, e7, e8, e9, e10, e11, k3, k4, k10]
  refine ⟨⟨b1, b2, b3, b4, b5, b6⟩, fun i hi => ?_, ?_, ⟨⟨Nat.le_trans hw i4.1, fun v hv => i4.2 v (hw2 v hv)⟩, fun k hk6 => by have := i5 k hk6; omega, i6⟩, i7, ⟨g, g1, fun q => ?_, g3, g4, g5, g6, g7⟩, i9, i10⟩
  · obtain ⟨j1, j2, j3, j4, j5⟩ := i2 i hi
    have := h1 i hi
    rcases h2 i hi with q | ⟨q1, q2⟩
    · exact ⟨by omega, by omega, fun q3 => by have := j3 q3; omega, fun q3 => by omega, j5⟩
    · rw [q1, q2]
      exact ⟨j1, j2, j3, j4, j5⟩
  · rcases h3 with q | ⟨q1, q2, q3⟩
    · exact Or.inl q
    · rcases i3 with r | ⟨r1, r2, r3⟩
      · have := r.1; omega
      · rw [q1]
        exact Or.inr ⟨r1, q3, r3⟩
  · rcases h3 with r | ⟨q1, q2, q3⟩
    · have := r.1; omega
    · rw [q1]; exact g2 q2
theorem p_crash (x : Int32) (hX : RX c lg z nn lo tr wt) (hM : RM w nn lo tr wt) (hI : INV N nn lo tr wt) (hN : N < 600) : GO (fun a => fX7_crash a x) (fun a => fX8_crash a x) c lg z w N := by
  have hW := hX.1
  have hn := hI.1.2.1
  rcases ix_cases x (n := nn 0 4) (by omega) with ⟨s, hs, rfl⟩ | hx
  · have hs5 : s < 5 := by omega
    obtain ⟨u1, u2', u3, u4, u5⟩ := hI.2.1 s hs5
    by_cases hup : nn 1 s = 0
    · refine GO.read (v := -2) hX hM hI ?_ ?_
      · simp only [fX7_crash]
        rw [xO hW, jr_bd (x_srv hX hs hn), jr_f (by simp), sI3 hW _ _ _ _ hs5, hX.2.1 1 s (by simp [dX, hs5]), jr_t (by rw [hup]; rfl)]; rfl
      · simp only [fX8_crash]
        rw [mO hW, jr_bd (m_srv hW hM hs hn), jr_f (by decide), mR1 hW, mG1 hW _ _ _ _ hs5, (hM.1.2 s hs5).1 hs, jr_t (by rw [hup]; rfl)]; rfl
    · have hupx : ¬ nI (nn 1 s) = 0 := fun e => hup ((nI_e0 (by omega)).mp e)
      have hX1 := (hX.n (k := 1) (i := s) (v := 0) (by simp [dX, hs5])).n (k := 2) (i := s) (v := 0) (by simp [dX, hs5])
      have hM1 := (hM.sv (k := 1) (i := s) (v := 0) (by omega) (by omega)).sv (k := 2) (i := s) (v := 0) (by omega) (by omega)
      have kk : ∀ k, k ≠ 1 → k ≠ 2 → n2 (n2 nn 1 s 0) 2 s 0 k = nn k := fun k h1 h2 => by rw [n2_k h2, n2_k h1]
      have hb1 : ∀ i, i < 5 → n2 (n2 nn 1 s 0) 2 s 0 1 i ≤ 1 ∧ n2 (n2 nn 1 s 0) 2 s 0 2 i ≤ 1 ∧ n2 (n2 nn 1 s 0) 2 s 0 1 i ≤ nn 1 i ∧ (n2 (n2 nn 1 s 0) 2 s 0 2 i = 0 ∨ (n2 (n2 nn 1 s 0) 2 s 0 2 i = nn 2 i ∧ n2 (n2 nn 1 s 0) 2 s 0 1 i = nn 1 i)) := fun i hi => by
        obtain ⟨j1, j2, -⟩ := hI.2.1 i hi
        by_cases e : i = s
        · subst e
          rw [n2_k (show (1 : Nat) ≠ 2 by decide), n2_s, n2_s]
          exact ⟨by omega, by omega, by omega, Or.inl rfl⟩
        · rw [n2_k (show (1 : Nat) ≠ 2 by decide), n2_i e, n2_i e, n2_k (show (2 : Nat) ≠ 1 by decide)]
          exact ⟨j1, j2, Nat.le_refl _, Or.inr ⟨rfl, rfl⟩⟩
      have hWV1 : WV (n2 (n2 nn 1 s 0) 2 s 0) wt := by
        unfold WV
        rw [kk 0 (by decide) (by decide)]
        exact hI.2.2.2.1.1
      obtain ⟨lg2, z2, e1, e2⟩ := x_drop (w := w) hX1 hWV1 hs5
      generalize hnn1 : n2 (n2 nn 1 s 0) 2 s 0 = nn1 at *
      have k0 : ∀ i, nn1 0 i = nn 0 i := fun i => by rw [kk 0 (by decide) (by decide)]
      have hn1 : nn1 0 4 ≤ 5 := by rw [k0]; exact hn
      have hz1 : ∀ i, i < 5 → nn1 0 4 ≤ i → nn1 2 i = 0 := fun i hi q => by
        rcases (hb1 i hi).2.2.2 with r | ⟨r, -⟩
        · exact r
        · rw [r]; exact INV_z2 hI i hi (by rw [k0] at q; exact q)
      have hz1u : ∀ i, i < 5 → nn1 0 4 ≤ i → nn1 1 i = 0 := fun i hi q => by
        have := (hb1 i hi).2.2.1
        have := (hI.2.1 i hi).2.2.1 (by rw [k0] at q; exact q)
        omega
      have hq1 : qm nn1 ≤ 3 := by unfold qm; omega
      have hwl : (wd s wt).length ≤ wt.length := List.length_filter_le _ _
      have hwm : ∀ v, v ∈ wd s wt → v ∈ wt := fun v hv => (List.mem_filter.mp hv).1
      have hcx := x_cnt (w := w) (k := 0) e2 (fun i hi => (hb1 i hi).2.1) hI.ll (by omega)
      have hqx := x_quo (w := w) e2 hn1
      have hc5 := cq_le (nn := nn1) (lo := lo) (k := 0)
      -- the reference drops
      have hmd : ∀ (c' : CX) (lg' : LG) (z' : ZZ), qW c' lg' → ∃ w2, RM w2 nn1 lo tr (wd s wt) ∧ fX8_crash (c'.1 20 0) (nI s) (qE c' lg' z' w) = (jm_rd (jm_gI (some (c'.1 20 0)) 9 5) fun v13 => (if v13 = nI s then jm_rd (jm_o (some (c'.1 20 0)) 9) fun a15 => jm_bd (fX8_noLeader a15) fun _ => jm_rd (jm_o (some (c'.1 20 0)) 9) fun a16 => jm_bd (fX8_ups a16) fun v16 => jm_ret v16 else jm_rd (jm_o (some (c'.1 20 0)) 9) fun a17 => jm_bd (fX8_actives a17) fun v17 => jm_rd (jm_o (some (c'.1 20 0)) 9) fun a18 => jm_bd (fX8_quorum a18) fun v18 => (if v18 ≤ v17 then jm_rd (jm_o (some (c'.1 20 0)) 9) fun a20 => jm_bd (fX8_ups a20) fun v20 => jm_ret v20 else jm_rd (jm_o (some (c'.1 20 0)) 9) fun a21 => jm_bd (fX8_noLeader a21) fun _ => jm_rd (jm_o (some (c'.1 20 0)) 9) fun a22 => jm_bd (fX8_ups a22) fun v22 => jm_ret v22))) (qE c' lg' z' w2) := by
        intro c' lg' z' hW'
        obtain ⟨w1, n0, d1, d2, d3, d4⟩ := m_drop_l (z := z') (s := s) hW' hs5 rfl hWV1.1 (fun v hv => (hWV1.2 v hv).1) wt.length 0 [] _ (by omega) (by simp) hM1.2.2.2.1.1 (fun q v hq => by simp at hq) (fun q v _ hq => hM1.2.2.2.1.2 q v hq) 4096 (by have := hWV1.1; omega)
        rw [List.drop_zero, List.nil_append] at d1 d3
        have hl10 := hWV1.1
        refine ⟨u2 w1 25 0 (nI (wd s wt).length), ⟨hM1.1.fr (fun f q => by rw [u2_k (by omega), d4 f (by omega)]) (fun _ _ => rfl), fun i hi => (hM1.2.1 i hi).fr (fun f q1 q2 => by rw [u2_k (by omega), d4 f (by omega)]), fun i hi => (hM1.2.2.1 i hi).fr (fun f q1 q2 => by rw [u2_k (by omega), d4 f (by omega)]), ⟨u2_s _ _ _ _, fun q v hq => ?_⟩, hM1.2.2.2.2.1.fr (by rw [u2_k (by omega), d4 23 (by omega)]) (by rw [u2_k (by omega), d4 24 (by omega)]) rfl rfl rfl, hM1.2.2.2.2.2.fr (by rw [u2_k (by omega), d4 21 (by omega)])⟩, ?_⟩
        · have := d3 q v hq
          unfold MV at this ⊢
          rw [u2_k (by decide), u2_k (by decide), u2_k (by decide)]
          exact this
        · unfold fX8_crash
          rw [mO hW', jr_bd (m_srv hW' hM hs hn), jr_f (by decide), mR1 hW', mG1 hW' _ _ _ _ hs5, (hM.1.2 s hs5).1 hs, jr_f hupx, mR1 hW', jZ0, mS1 hW' _ _ _ _ _ hs5, mR2 hW', jZ0, mS2 hW' _ _ _ _ _ hs5]
          refine (show fX8_crash_40 4096 (c'.1 20 0) (nI s) 0 0 (qE c' lg' z' (u2 (u2 w 1 s 0) 2 s 0)) = _ from d1).trans ?_
          rw [fX8_crash_40, mI25 hW', d2, jr_t (nI_le (by omega) (by omega)), mP25 hW']
      have hca : fX7_countActive (c.1 0 0) (qE c lg2 z2 w) = some (nI (cq nn1 lo 0), qE c lg2 z2 w) := by
        unfold fX7_countActive
        rw [xO e2.1, jr_bd (show fX7_countActiveWithLogOf (c.1 0 0) 0 (qE c lg2 z2 w) = _ from hcx)]; rfl
      have hld : nn 0 6 = 4294967288 ∨ nn 0 6 < 5 := by
        rcases hI.2.2.1 with ⟨l1, -⟩ | ⟨l1, -⟩
        · exact Or.inl l1
        · exact Or.inr l1
      have hxne : nn 0 6 ≠ s → ¬ some (c.1 2 s) = chf c (nI (nn 0 6)) := fun h => by
        rcases hld with q | q
        · rw [q, chf_n]; simp
        · rw [chf_s q]; exact fun e => h ((ad_inj e2.1 hs5 q).mp e).symm
      have hmne : nn 0 6 ≠ s → ¬ nI (nn 0 6) = nI s := fun h e => h ((nI_inj (by omega) (by omega)).mp e)
      by_cases hlost : nn 0 6 = s ∨ cq nn1 lo 0 < qm nn1
      · obtain ⟨z3, f1, f2⟩ := x_end (w := w) e2
        have hIf : INV N (nap 5 (n2 nn1 0 6 4294967288)) lo tr (wd s wt) := hI.dn (fun i hi => by rw [nap_k (by decide), n2_i hi]; exact k0 i) (fun k i hk => by rw [nap_k (by omega), n2_k (by omega), kk k (by omega) (by omega)]) (fun i hi => by rw [nap_k (by decide), n2_k (by decide)]; exact (hb1 i hi).2.2.1) (fun i hi => Or.inl (nap_2 hi)) (Or.inl ⟨by rw [nap_k (by decide), n2_s], fun i hi => nap_2 hi⟩) hwl hwm
        have hbf : ∀ i, i < 5 → nap 5 (n2 nn1 0 6 4294967288) 1 i ≤ 1 := fun i hi => (hIf.2.1 i hi).1
        have hux := x_ups (w := w) f2 hbf
        obtain ⟨w2, m1, m2⟩ := hmd c lg2 z3 f2.1
        obtain ⟨w3, m3, m4⟩ := m_nol (z := z3) f2.1 m1
        have hum := m_ups (z := z3) f2.1 m4 hIf.1.2.1 hbf (fun i hi => (hIf.2.1 i hi).2.2.1)
        refine ⟨nI (cn (fun i => decide (nap 5 (n2 nn1 0 6 4294967288) 1 i ≠ 0)) 5), c, lg2, z3, w3, _, lo, tr, _, ?_, ?_, f2, m4, hIf.succ, KE.rfl.mono (by omega) (by omega)⟩
        · simp only [fX7_crash]
          rw [xO hW, jr_bd (x_srv hX hs hn), jr_f (by simp), sI3 hW _ _ _ _ hs5, hX.2.1 1 s (by simp [dX, hs5]), jr_f hupx, jZ0, sP3 hW _ _ _ _ _ hs5, jZ0, sP4 hW _ _ _ _ _ hs5, xR2 hW, yO hW, jr_bd (show fX6_dropAllOf (c.1 12 0) (nI s) (qE c lg (u2 (u2 z 1 s 0) 2 s 0) w) = _ from e1), xR6 e2.1, e2.2.1 0 6 rfl, k0]
          by_cases hls : nn 0 6 = s
          · rw [hls, chf_s hs5, jr_t rfl, xO e2.1, jr_bd f1, xO f2.1, jr_bd hux]; rfl
          · rw [jr_f (hxne hls), xO e2.1, jr_bd hca, xO e2.1, jr_bd hqx, jr_f (nI_ge (hlost.resolve_left hls) (by omega)), xO e2.1, jr_bd f1, xO f2.1, jr_bd hux]; rfl
        · show fX8_crash (c.1 20 0) (nI s) (qE c lg2 z3 w) = _
          rw [m2, mI5 f2.1, m1.1.1.2.1, k0]
          by_cases hls : nn 0 6 = s
          · rw [jr_t (by rw [hls]), mO f2.1, jr_bd m3, mO f2.1, jr_bd hum]; rfl
          · rw [jr_f (hmne hls), mO f2.1, jr_bd (m_act f2.1 m1 hn1 (fun i hi => (hb1 i hi).2.1) hz1), mO f2.1, jr_bd (m_quo f2.1 m1 hn1), jr_f (nI_ge (hlost.resolve_left hls) (by omega)), mO f2.1, jr_bd m3, mO f2.1, jr_bd hum]; rfl
      · have hls : nn 0 6 ≠ s := fun q => hlost (Or.inl q)
        have hge : qm nn1 ≤ cq nn1 lo 0 := by
          have : ¬ cq nn1 lo 0 < qm nn1 := fun q => hlost (Or.inr q)
          omega
        have hlead : nn 0 6 < 5 ∧ nn 2 (nn 0 6) = 1 := by
          rcases hI.2.2.1 with ⟨l1, l2⟩ | ⟨l1, l2, l3⟩
          · exfalso
            have : cq nn1 lo 0 = 0 := by
              have h1 := cn_mono (f := fun i => decide (nn1 2 i ≠ 0 ∧ 0 ≤ (lo i).length)) (g := fun _ => false) 5 (fun j hj q => by
                simp only [decide_eq_true_eq] at q
                rcases (hb1 j hj).2.2.2 with r | ⟨r, -⟩
                · exact absurd r q.1
                · rw [r, l2 j hj] at q; exact absurd rfl q.1)
              have h2 : cn (fun _ => false) 5 = 0 := rfl
              unfold cq
              omega
            have : 1 ≤ qm nn1 := by unfold qm; omega
            omega
          · exact ⟨l1, l2⟩
        have h2l : nn1 2 (nn 0 6) = 1 := by
          rw [← hnn1, n2_i hls, n2_k (by decide)]
          exact hlead.2
        have hIf : INV N nn1 lo tr (wd s wt) := hI.dn (fun i hi => k0 i) (fun k i hk => by rw [kk k (by omega) (by omega)]) (fun i hi => (hb1 i hi).2.2.1) (fun i hi => (hb1 i hi).2.2.2) (Or.inr ⟨k0 6, hlead.1, h2l⟩) hwl hwm
        have hux := x_ups (w := w) e2 (fun i hi => (hb1 i hi).1)
        obtain ⟨w2, m1, m2⟩ := hmd c lg2 z2 e2.1
        have hum := m_ups (z := z2) e2.1 m1 hn1 (fun i hi => (hb1 i hi).1) hz1u
        refine ⟨nI (cn (fun i => decide (nn1 1 i ≠ 0)) 5), c, lg2, z2, w2, _, lo, tr, _, ?_, ?_, e2, m1, hIf.succ, KE.rfl.mono (by omega) (by omega)⟩
        · simp only [fX7_crash]
          rw [xO hW, jr_bd (x_srv hX hs hn), jr_f (by simp), sI3 hW _ _ _ _ hs5, hX.2.1 1 s (by simp [dX, hs5]), jr_f hupx, jZ0, sP3 hW _ _ _ _ _ hs5, jZ0, sP4 hW _ _ _ _ _ hs5, xR2 hW, yO hW, jr_bd (show fX6_dropAllOf (c.1 12 0) (nI s) (qE c lg (u2 (u2 z 1 s 0) 2 s 0) w) = _ from e1), xR6 e2.1, e2.2.1 0 6 rfl, k0, jr_f (hxne hls), xO e2.1, jr_bd hca, xO e2.1, jr_bd hqx, jr_t (nI_le hge (by omega)), xO e2.1, jr_bd hux]; rfl
        · show fX8_crash (c.1 20 0) (nI s) (qE c lg2 z2 w) = _
          rw [m2, mI5 e2.1, m1.1.1.2.1, k0, jr_f (hmne hls), mO e2.1, jr_bd (m_act e2.1 m1 hn1 (fun i hi => (hb1 i hi).2.1) hz1), mO e2.1, jr_bd (m_quo e2.1 m1 hn1), jr_t (nI_le hge (by omega)), mO e2.1, jr_bd hum]; rfl
  · refine GO.read (v := -1) hX hM hI ?_ ?_
    · simp only [fX7_crash]
      rw [xO hW, jr_bd (x_srvn hX hx), jr_t rfl]; rfl
    · simp only [fX8_crash]
      rw [mO hW, jr_bd (m_srvn hW hM hx hn), jr_t rfl]; rfl
end CR
