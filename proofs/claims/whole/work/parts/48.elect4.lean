/-! ===== an election, the reference's side ===== -/
def eo (o : Option Nat) : Nat := match o with
  | none => 4294967288
  | some b => b
def mo (nn : NN) (o : Option Nat) : Nat := match o with
  | none => 0
  | some b => nn 3 b
section EM
variable {c : CX} {lg : LG} {z w : ZZ} {N : Nat} {nn : NN} {lo : Nat → List TX} {tr : Nat → List ND} {wt : List WT}
theorem n67 (nn : NN) (a b y v : Nat) : n2 (n2 (n2 (n2 nn 0 6 a) 0 7 b) 0 6 y) 0 7 v = n2 (n2 nn 0 6 y) 0 7 v := by
  funext k i
  unfold n2
  by_cases h7 : k = 0 ∧ i = 7
  · simp only [if_pos h7]
  · by_cases h6 : k = 0 ∧ i = 6
    · simp only [if_neg h7, if_pos h6]
    · simp only [if_neg h7, if_neg h6]
theorem m_127 {m : NN} {k30 : Nat → Int32 → jm_P Int32} {s y : Nat} (hW : qW c lg) (hM : RM w m lo tr wt) (hs : s < 5) (h3 : m 3 s < 2 ^ 31) (h7 : m 0 7 < 2 ^ 31) : ∃ w', fX8_elect_127 k30 (c.1 20 0) (nI s) (nI y) (qE c lg z w) = k30 (c.1 20 0) (nI (s + 1)) (qE c lg z w') ∧ RM w' (n2 (n2 m 0 6 y) 0 7 (max (m 3 s) (m 0 7))) lo tr wt := by
  have hM1 := hM.sc (a := 5) (b := 6) (v := y) (by decide)
  have e3 := (hM1.1.2 s hs).2.2.1
  have e6 := hM1.1.1.2.2.1
  rw [n2_k (by decide)] at e3
  rw [n2_i (by decide)] at e6
  refine ⟨u2 (u2 w 5 0 (nI y)) 6 0 (nI (max (m 3 s) (m 0 7))), ?_, hM1.sc (a := 6) (b := 7) (by decide)⟩
  unfold fX8_elect_127
  rw [mP5 hW, mR3 hW, mG3 hW _ _ _ _ hs, e3, mI6 hW, e6]
  by_cases h : m 3 s ≤ m 0 7
  · rw [jr_t (nI_le h h7), mI6 hW, e6, mP6 hW, nI_1, Nat.max_eq_right h]
  · rw [jr_f (nI_ge (by omega) h3), mR3 hW, mG3 hW _ _ _ _ hs, e3, mP6 hW, nI_1, Nat.max_eq_left (by omega)]
theorem bst_ext {n : Nat} : ∀ k, (∀ j, n ≤ j → j < n + k → nn 1 j ≠ 1) → bst nn lo (n + k) = bst nn lo n := by
  intro k
  induction k with
  | zero => intro _; rfl
  | succ k ih =>
    intro h
    have e : bst nn lo (n + (k + 1)) = bst nn lo (n + k) := if_neg (h (n + k) (by omega) (by omega))
    rw [e]
    exact ih (fun j h1 h2 => h j h1 (by omega))
theorem m_el_a {R : Option Nat} (hW : qW c lg) (hn : nn 0 4 ≤ 5) (hR : bst nn lo (nn 0 4) = R) (hu : ∀ i, i < 5 → nn 1 i ≤ 1) (hll : ∀ i, i < 5 → (lo i).length ≤ 40) (h3 : ∀ i, i < 5 → nn 3 i < 2 ^ 31) (hid : ∀ i, i < 5 → nid (lo i) < 2 ^ 31) : ∀ n j (w : ZZ), j + n = nn 0 4 → RM w (n2 (n2 nn 0 6 (eo (bst nn lo j))) 0 7 (mo nn (bst nn lo j))) lo tr wt → ∀ f, n < f → ∃ w', fX8_elect_30 f (c.1 20 0) (nI j) (qE c lg z w) = (jm_rd (jm_gI (some (c.1 20 0)) 9 6) fun v9 => jm_wr (jm_p (some (c.1 20 0)) 9 6 (.inl (v9 + 1))) <| jm_wr (jm_p (some (c.1 20 0)) 9 7 (.inl 0)) <| fX8_elect_183 4096 (c.1 20 0) 0) (qE c lg z w') ∧ RM w' (n2 (n2 nn 0 6 (eo R)) 0 7 (mo nn R)) lo tr wt := by
  intro n
  induction n with
  | zero =>
    intro j w hj hM f hf
    obtain ⟨f, rfl⟩ : ∃ k', f = k' + 1 := ⟨f - 1, by omega⟩
    have e : j = nn 0 4 := by omega
    subst e
    rw [hR] at hM
    refine ⟨w, ?_, hM⟩
    rw [fX8_elect_30, mI0 hW, hM.1.1.1, n2_i (by decide), n2_i (by decide), jr_t (nI_le (Nat.le_refl _) (by omega))]
  | succ n ih =>
    intro j w hj hM f hf
    obtain ⟨f, rfl⟩ : ∃ k', f = k' + 1 := ⟨f - 1, by omega⟩
    have hj5 : j < 5 := by omega
    have hbj := hu j hj5
    have e1 := (hM.1.2 j hj5).1 (by rw [n2_i (by decide), n2_i (by decide)]; omega)
    rw [n2_k (by decide), n2_k (by decide)] at e1
    have e3 : ∀ i, i < 5 → w 3 i = nI (nn 3 i) := fun i hi => by rw [(hM.1.2 i hi).2.2.1, n2_k (by decide), n2_k (by decide)]
    have e5 : w 5 0 = nI (eo (bst nn lo j)) := by rw [hM.1.1.2.1, n2_i (by decide), n2_s]
    rw [fX8_elect_30, mI0 hW, hM.1.1.1, n2_i (by decide), n2_i (by decide), jr_f (nI_ge (by omega) (by omega)), mR1 hW, mG1 hW _ _ _ _ hj5, e1]
    by_cases q : nn 1 j = 1
    · rw [jr_f (fun e => by have := (nI_e0 (by omega)).mp e; omega), mI5 hW, e5]
      have m3 : n2 (n2 nn 0 6 (eo (bst nn lo j))) 0 7 (mo nn (bst nn lo j)) 3 j = nn 3 j := by rw [n2_k (by decide), n2_k (by decide)]
      have m7 : n2 (n2 nn 0 6 (eo (bst nn lo j))) 0 7 (mo nn (bst nn lo j)) 0 7 = mo nn (bst nn lo j) := n2_s _ _ _ _
      have hmo : mo nn (bst nn lo j) < 2 ^ 31 := by
        cases hb : bst nn lo j with
        | none => show 0 < _; omega
        | some b => exact h3 b (by have := (bst_some hb).1; omega)
      -- y becomes the leader
      have go : ∀ y, eo (bst nn lo (j + 1)) = y → mo nn (bst nn lo (j + 1)) = max (nn 3 j) (mo nn (bst nn lo j)) → ∃ w', fX8_elect_127 (fun h0 x1 => fX8_elect_30 f h0 x1) (c.1 20 0) (nI j) (nI y) (qE c lg z w) = (jm_rd (jm_gI (some (c.1 20 0)) 9 6) fun v9 => jm_wr (jm_p (some (c.1 20 0)) 9 6 (.inl (v9 + 1))) <| jm_wr (jm_p (some (c.1 20 0)) 9 7 (.inl 0)) <| fX8_elect_183 4096 (c.1 20 0) 0) (qE c lg z w') ∧ RM w' (n2 (n2 nn 0 6 (eo R)) 0 7 (mo nn R)) lo tr wt := by
        intro y hy hm
        obtain ⟨w1, f1, f2⟩ := m_127 (z := z) (k30 := fun h0 x1 => fX8_elect_30 f h0 x1) (y := y) hW hM hj5 (by rw [m3]; exact h3 j hj5) (by rw [m7]; exact hmo)
        rw [m3, m7, n67, ← hm, ← hy] at f2
        obtain ⟨w2, g1, g2⟩ := ih (j + 1) w1 (by omega) f2 f (by omega)
        exact ⟨w2, f1.trans g1, g2⟩
      cases hb : bst nn lo j with
      | none =>
        have hb1 : bst nn lo (j + 1) = some j := by simp only [bst]; rw [if_pos q, hb]
        rw [show eo none = 4294967288 from rfl, ← m8_, jr_t rfl]
        unfold fX8_elect_108 fX8_elect_113
        rw [jr_f (by decide)]
        exact go j (by rw [hb1]; rfl) (by rw [hb1, hb]; show nn 3 j = max (nn 3 j) 0; omega)
      | some b =>
        have hbs := bst_some hb
        have hb5 : b < 5 := by omega
        rw [hb] at e5
        have e5' : w 5 0 = nI b := e5
        have hq3 := h3 j hj5
        have hq4 := h3 b hb5
        have hi3 := hid j hj5
        have hi4 := hid b hb5
        have hll1 : RM w (n2 (n2 nn 0 6 (eo (bst nn lo j))) 0 7 (mo nn (bst nn lo j))) lo tr wt := hM
        rw [show eo (some b) = b from rfl, jr_f (ldn hb5), mR3 hW, mG3 hW _ _ _ _ hj5, e3 j hj5, mR3 hW, mI5 hW, e5', mG3 hW _ _ _ _ hb5, e3 b hb5]
        have hb1 : bst nn lo (j + 1) = if ahd nn lo b j = true then some j else some b := by simp only [bst]; rw [if_pos q, hb]
        have yes : ahd nn lo b j = true → ∃ w', fX8_elect_108 (fun h0 x1 => fX8_elect_30 f h0 x1) (c.1 20 0) (nI j) (qE c lg z w) = (jm_rd (jm_gI (some (c.1 20 0)) 9 6) fun v9 => jm_wr (jm_p (some (c.1 20 0)) 9 6 (.inl (v9 + 1))) <| jm_wr (jm_p (some (c.1 20 0)) 9 7 (.inl 0)) <| fX8_elect_183 4096 (c.1 20 0) 0) (qE c lg z w') ∧ RM w' (n2 (n2 nn 0 6 (eo R)) 0 7 (mo nn R)) lo tr wt := by
          intro ha
          unfold fX8_elect_108 fX8_elect_113
          rw [jr_f (by decide)]
          rw [if_pos ha] at hb1
          simp only [ahd, decide_eq_true_eq] at ha
          exact go j (by rw [hb1]; rfl) (by rw [hb1, hb]; show nn 3 j = max (nn 3 j) (nn 3 b); omega)
        have nay : ¬ ahd nn lo b j = true → ∃ w', fX8_elect_112 (fun h0 x1 => fX8_elect_30 f h0 x1) (c.1 20 0) (nI j) (qE c lg z w) = (jm_rd (jm_gI (some (c.1 20 0)) 9 6) fun v9 => jm_wr (jm_p (some (c.1 20 0)) 9 6 (.inl (v9 + 1))) <| jm_wr (jm_p (some (c.1 20 0)) 9 7 (.inl 0)) <| fX8_elect_183 4096 (c.1 20 0) 0) (qE c lg z w') ∧ RM w' (n2 (n2 nn 0 6 (eo R)) 0 7 (mo nn R)) lo tr wt := by
          intro ha
          unfold fX8_elect_112 fX8_elect_113
          rw [jr_t rfl, mI5 hW, e5']
          rw [if_neg ha] at hb1
          simp only [ahd, decide_eq_true_eq] at ha
          exact go b (by rw [hb1]; rfl) (by rw [hb1, hb]; show nn 3 b = max (nn 3 j) (nn 3 b); omega)
        by_cases c1 : nn 3 b < nn 3 j
        · rw [jr_t (nI_lt c1 hq3)]
          exact yes (by simp [ahd, c1])
        · rw [jr_f (nI_nlt (by omega) hq4), mR3 hW, mG3 hW _ _ _ _ hj5, e3 j hj5, mR3 hW, mI5 hW, e5', mG3 hW _ _ _ _ hb5, e3 b hb5]
          by_cases c2 : nn 3 j = nn 3 b
          · rw [jr_t (by rw [c2]), mO hW, jr_bd (m_lastlog hW hM hj5 (hll j hj5)), mI5 hW, e5', mO hW, jr_bd (m_lastlog hW hM hb5 (hll b hb5))]
            by_cases c3 : nid (lo j) < nid (lo b)
            · rw [jr_t (nI_lt c3 hi4)]
              exact nay (by simp [ahd]; omega)
            · rw [jr_f (nI_nlt (by omega) hi3)]
              exact yes (by simp [ahd]; omega)
          · rw [jr_f (fun e => c2 ((nI_eq hq3 hq4).mp e))]
            exact nay (by simp [ahd]; omega)
    · rw [jr_t (by rw [show nn 1 j = 0 by omega]; rfl), nI_1]
      have e : bst nn lo (j + 1) = bst nn lo j := if_neg q
      exact ih (j + 1) w (by omega) (by rw [e]; exact hM) f (by omega)
/-- the followers become like the leader -/
def nnA (n0 nn : NN) (g j : Nat) : NN := fun k i => if k = 2 ∧ i < j ∧ nn 1 i = 1 ∧ i ≠ g then 1 else n0 k i
theorem nnA_s {n0 : NN} {g j : Nat} (h : nn 1 j = 1) (hg : j ≠ g) : n2 (nnA n0 nn g j) 2 j 1 = nnA n0 nn g (j + 1) := by
  funext k i
  unfold n2 nnA
  by_cases e : i = j
  · subst e
    by_cases h2 : k = 2
    · subst h2; simp [h, hg]
    · simp [h2]
  · have h1 : (i < j + 1) = (i < j) := by simp; omega
    simp [e, h1]
theorem nnA_n {n0 : NN} {g j : Nat} (h : nn 1 j ≠ 1 ∨ j = g) : nnA n0 nn g (j + 1) = nnA n0 nn g j := by
  funext k i
  unfold nnA
  by_cases e : i = j
  · subst e
    rcases h with h | h <;> simp [h]
  · have h1 : (i < j + 1) = (i < j) := by simp; omega
    simp [h1]
theorem nnA_k {n0 : NN} {g j k i : Nat} (h2 : k ≠ 2) : nnA n0 nn g j k i = n0 k i := by simp [nnA, h2]
theorem m_el_b {g : Nat} {n0 : NN} (hW : qW c lg) (hI : INV N nn lo tr wt) (hg : g < 5) (hn1 : ∀ i, n0 1 i = nn 1 i) (hn4 : n0 0 4 = nn 0 4) (hn6 : n0 0 6 = g) : ∀ n j (w : ZZ), j + n = nn 0 4 → RM w (nnA n0 nn g j) (loP nn lo g j) tr wt → ∀ f, n < f → ∃ w', fX8_elect_183 f (c.1 20 0) (nI j) (qE c lg z w) = fX8_elect_245 4096 (c.1 20 0) 0 (qE c lg z w') ∧ RM w' (n2 (n2 (nnA n0 nn g (nn 0 4)) 2 g 1) 0 9 (lo g).length) (loP nn lo g (nn 0 4)) tr wt := by
  have hn := hI.1.2.1
  have hgl := hI.ll g hg
  intro n
  induction n with
  | zero =>
    intro j w hj hM f hf
    obtain ⟨f, rfl⟩ : ∃ k', f = k' + 1 := ⟨f - 1, by omega⟩
    have e : j = nn 0 4 := by omega
    subst e
    have e5 : w 5 0 = nI g := by rw [hM.1.1.2.1, nnA_k (by decide), hn6]
    have e9 : w 9 g = nI (lo g).length := by rw [(hM.2.1 g hg).1, loP_g]
    have hM1 := (hM.sv (k := 2) (i := g) (v := 1) (by omega) (by omega)).sc (a := 8) (b := 9) (v := (lo g).length) (by decide)
    refine ⟨_, ?_, hM1⟩
    rw [fX8_elect_183, mI0 hW, hM.1.1.1, nnA_k (by decide), hn4, jr_t (nI_le (Nat.le_refl _) (by omega)), mR2 hW, mI5 hW, e5, jZ1, mS2 hW _ _ _ _ _ hg, mR9 hW, mI5 hW, u2_k (by decide), e5, mG9 hW _ _ _ _ hg, u2_k (by decide), e9, mP8 hW]
    rfl
  | succ n ih =>
    intro j w hj hM f hf
    obtain ⟨f, rfl⟩ : ∃ k', f = k' + 1 := ⟨f - 1, by omega⟩
    have hj5 : j < 5 := by omega
    have hbj := (hI.2.1 j hj5).1
    have e5 : w 5 0 = nI g := by rw [hM.1.1.2.1, nnA_k (by decide), hn6]
    have e1 := (hM.1.2 j hj5).1 (by rw [nnA_k (by decide), hn4]; omega)
    rw [nnA_k (by decide), hn1] at e1
    rw [fX8_elect_183, mI0 hW, hM.1.1.1, nnA_k (by decide), hn4, jr_f (nI_ge (by omega) (by omega)), mR1 hW, mG1 hW _ _ _ _ hj5, e1]
    by_cases q : nn 1 j = 1
    · rw [jr_f (fun e => by have := (nI_e0 (by omega)).mp e; omega), mI5 hW, e5]
      by_cases hjg : j = g
      · rw [jr_t (by rw [hjg]), nI_1]
        refine ih (j + 1) w (by omega) ?_ f (by omega)
        rw [nnA_n (Or.inr hjg), ← loP_s q]
        have : va_up (loP nn lo g j) j (lo g) = loP nn lo g j := by
          rw [hjg]
          conv => lhs; rw [show lo g = loP nn lo g g g from loP_g.symm]
          rw [va_self]
        rw [this]
        exact hM
      · rw [jr_f (fun e => hjg ((nI_eq (by omega) (by omega)).mp e))]
        have hll := loP_len (nn := nn) (j := j) hg hI.ll
        have hib : ∀ i x, i < 5 → x ∈ loP nn lo g j i → x.1 < 2 ^ 32 := fun i x hi hx => by
          unfold loP at hx
          split at hx
          · exact hI.ib g x hg hx
          · exact hI.ib i x hi hx
        obtain ⟨w1, f1, f2⟩ := m_becomes (z := z) hW hM hj5 hg hjg (by rw [nnA_k (by decide)]; exact hn6) hll hib
        rw [loP_j, loP_g, copy_all hI hj5 hg, nnA_s q hjg, loP_s q] at f2
        obtain ⟨w2, g1, g2⟩ := ih (j + 1) w1 (by omega) f2 f (by omega)
        refine ⟨w2, ?_, g2⟩
        rw [mO hW, jr_bd f1, nI_1]
        exact g1
    · rw [jr_t (by rw [show nn 1 j = 0 by omega]; rfl), nI_1]
      exact ih (j + 1) w (by omega) (by rw [nnA_n (Or.inl q), loP_n q]; exact hM) f (by omega)
end EM
