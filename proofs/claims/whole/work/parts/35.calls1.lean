/-! ===== paths, nodes, sessions, heartbeat ===== -/
def dg (ns : List Nat) (j : Nat) : Nat := match ns[j]? with
  | none => 0
  | some a => a + 1
theorem ns_cases (ns : List Nat) (h : ns.length ≤ 4) : ns = [] ∨ (∃ a, ns = [a]) ∨ (∃ a b, ns = [a, b]) ∨ (∃ a b d, ns = [a, b, d]) ∨ ∃ a b d e, ns = [a, b, d, e] := by
  match ns, h with
  | [], _ => exact Or.inl rfl
  | [a], _ => exact Or.inr (Or.inl ⟨a, rfl⟩)
  | [a, b], _ => exact Or.inr (Or.inr (Or.inl ⟨a, b, rfl⟩))
  | [a, b, d], _ => exact Or.inr (Or.inr (Or.inr (Or.inl ⟨a, b, d, rfl⟩)))
  | [a, b, d, e], _ => exact Or.inr (Or.inr (Or.inr (Or.inr ⟨a, b, d, e, rfl⟩)))
  | a :: b :: d :: e :: f :: l, h => simp at h
theorem ns_p7 {ns : List Nat} (h : ns.length ≤ 4) (h6 : ∀ a, a ∈ ns → a < 6) : 7 * (7 * (7 * (7 * 0 + dg ns 0) + dg ns 1) + dg ns 2) + dg ns 3 = p7 (ns.foldl (fun q a => 8 * q + (a + 1)) 0) := by
  rcases ns_cases ns h with rfl | ⟨a, rfl⟩ | ⟨a, b, rfl⟩ | ⟨a, b, d, rfl⟩ | ⟨a, b, d, e, rfl⟩
  · rfl
  · have := h6 a (by simp)
    simp only [dg, List.foldl_cons, List.foldl_nil, List.getElem?_cons_zero, List.getElem?_cons_succ, List.getElem?_nil]
    rw [p7, if_pos (by omega)]
    omega
  · have := h6 a (by simp)
    have := h6 b (by simp)
    simp only [dg, List.foldl_cons, List.foldl_nil, List.getElem?_cons_zero, List.getElem?_cons_succ, List.getElem?_nil]
    rw [p7, if_neg (by omega), if_pos (by omega)]
    omega
  · have := h6 a (by simp)
    have := h6 b (by simp)
    have := h6 d (by simp)
    simp only [dg, List.foldl_cons, List.foldl_nil, List.getElem?_cons_zero, List.getElem?_cons_succ, List.getElem?_nil]
    rw [p7, if_neg (by omega), if_neg (by omega), if_pos (by omega)]
    omega
  · have := h6 a (by simp)
    have := h6 b (by simp)
    have := h6 d (by simp)
    have := h6 e (by simp)
    simp only [dg, List.foldl_cons, List.foldl_nil, List.getElem?_cons_zero, List.getElem?_cons_succ, List.getElem?_nil]
    rw [p7, if_neg (by omega), if_neg (by omega), if_neg (by omega)]
    omega
theorem okp_all : (List.range 512).all (fun p => !okp p || (List.range 6).all (fun a => okp (8 * p + (a + 1)))) = true := by decide +kernel
theorem okp_step {p a : Nat} (h : okp p = true) (hp : p < 512) (ha : a < 6) : okp (8 * p + (a + 1)) = true := by
  have h1 := List.all_eq_true.mp okp_all p (List.mem_range.mpr hp)
  simp only [h, Bool.not_true, Bool.false_or] at h1
  exact List.all_eq_true.mp h1 a (List.mem_range.mpr ha)
theorem ns_okp {ns : List Nat} (h : ns.length ≤ 4) (h6 : ∀ a, a ∈ ns → a < 6) : okp (ns.foldl (fun q a => 8 * q + (a + 1)) 0) = true ∧ (ns.foldl (fun q a => 8 * q + (a + 1)) 0 = 0 ↔ ns.length = 0) := by
  rcases ns_cases ns h with rfl | ⟨a, rfl⟩ | ⟨a, b, rfl⟩ | ⟨a, b, d, rfl⟩ | ⟨a, b, d, e, rfl⟩
  · exact ⟨rfl, by simp⟩
  · have := h6 a (by simp)
    simp only [List.foldl_cons, List.foldl_nil, List.length_cons, List.length_nil]
    exact ⟨okp_step rfl (by omega) (by omega), by omega⟩
  · have := h6 a (by simp)
    have := h6 b (by simp)
    simp only [List.foldl_cons, List.foldl_nil, List.length_cons, List.length_nil]
    exact ⟨okp_step (okp_step rfl (by omega) (by omega)) (by omega) (by omega), by omega⟩
  · have := h6 a (by simp)
    have := h6 b (by simp)
    have := h6 d (by simp)
    simp only [List.foldl_cons, List.foldl_nil, List.length_cons, List.length_nil]
    exact ⟨okp_step (okp_step (okp_step rfl (by omega) (by omega)) (by omega) (by omega)) (by omega) (by omega), by omega⟩
  · have := h6 a (by simp)
    have := h6 b (by simp)
    have := h6 d (by simp)
    have := h6 e (by simp)
    simp only [List.foldl_cons, List.foldl_nil, List.length_cons, List.length_nil]
    exact ⟨okp_step (okp_step (okp_step (okp_step rfl (by omega) (by omega)) (by omega) (by omega)) (by omega) (by omega)) (by omega) (by omega), by omega⟩
section C1
variable {c : CX} {lg : LG} {z w : ZZ} {N : Nat} {nn : NN} {lo : Nat → List TX} {tr : Nat → List ND} {wt : List WT}
theorem m_path_s {ns : List Nat} {j x k : Nat} (hW : qW c lg) (h20 : w 20 0 = nI ns.length) (hl : ns.length ≤ 4) (h21 : ∀ j a, ns[j]? = some a → w 21 j = nI a) (hj : j < 4) : fX8_path_4 (k + 1) (c.1 20 0) (nI x) (nI j) (qE c lg z w) = fX8_path_4 k (c.1 20 0) (nI (7 * x + dg ns j)) (nI (j + 1)) (qE c lg z w) := by
  rw [fX8_path_4, jr_f (show ¬ (4 : Int32) ≤ nI j from nI_ge (b := 4) hj (by omega)), mI20 hW, h20]
  by_cases h1 : ns.length ≤ j
  · have e : dg ns j = 0 := by unfold dg; rw [List.getElem?_eq_none h1]
    rw [jr_t (nI_le h1 (by omega)), n7, nI_1, e, show nI (7 * x) + 0 = nI (7 * x + 0) from nI_add _ 0]
  · have hg : ns[j]? = some ns[j] := List.getElem?_eq_getElem (by omega)
    have e : dg ns j = ns[j] + 1 := by unfold dg; rw [hg]
    rw [jr_f (nI_ge (by omega) (by omega)), mR21 hW, mG21 hW _ _ _ _ (by omega), h21 j _ hg, n7, nI_1, nI_1, nI_add, e]
theorem m_path (hW : qW c lg) (h : RM w nn lo tr wt) : fX8_path (c.1 20 0) (qE c lg z w) = some (nI (p7 (nn 0 10)), qE c lg z w) := by
  obtain ⟨ns, j1, j2, j3, j4, j5⟩ := h.2.2.2.2.2
  have h20 : w 20 0 = nI ns.length := by rw [h.1.1.2.2.2.2.2.1, j1]
  rw [← j1] at j2
  show fX8_path_4 (4091 + 5) (c.1 20 0) (nI 0) (nI 0) (qE c lg z w) = _
  rw [m_path_s hW h20 j2 j5 (by omega), m_path_s hW h20 j2 j5 (by omega), m_path_s hW h20 j2 j5 (by omega), m_path_s hW h20 j2 j5 (by omega), fX8_path_4, jr_t (show (4 : Int32) ≤ nI (0 + 1 + 1 + 1 + 1) by decide +kernel), ns_p7 j2 j3, ← j4]
  rfl
theorem p_append (x : Int32) (hX : RX c lg z nn lo tr wt) (hM : RM w nn lo tr wt) (hI : INV N nn lo tr wt) : GO (fun a => fX7_appendName a x) (fun a => fX8_appendName a x) c lg z w N := by
  have hW := hX.1
  obtain ⟨b1, b2, b3, b4, b5, b6⟩ := hI.1
  have hin := m_in (x := x) (l := 0) (h := 5) (S := qE c lg z w)
  rcases ix_cases x (n := 6) (by omega) with ⟨a, ha, rfl⟩ | hx
  · rw [if_neg (nI_pos (by omega)), if_neg (show ¬ (5 : Int32) < nI a from nI_nlt (b := a) (a := 5) (by omega) (by omega))] at hin
    by_cases h4 : nn 0 11 = 4
    · refine GO.read (v := -7) hX hM hI ?_ ?_
      · simp only [fX7_appendName]
        rw [jr_f (nI_pos (by omega)), jr_t (show nI a ≤ (5 : Int32) from nI_le (b := 5) (by omega) (by omega)), xI11 hW, hX.2.1 0 11 rfl, h4, jr_f (by decide +kernel)]; rfl
      · simp only [fX8_appendName]
        rw [jr_bd (show fX8_in (nI a).toInt64 0 5 (qE c lg z w) = _ from hin), jr_f (by decide), mI20 hW, hM.1.1.2.2.2.2.2.1, h4, jr_t (show nI 4 = 4 from rfl)]; rfl
    · obtain ⟨ns, j1, j2, j3, j4, j5⟩ := hM.2.2.2.2.2
      have hpl : nn 0 10 < 4096 := okp_lt b4
      have e8 : nI (nn 0 10) <<< ((3 : Int32) &&& 31) + nI a + 1 = nI (8 * nn 0 10 + (a + 1)) := by
        rw [x_shl hpl, nI_add, nI_1]
        congr 1
        omega
      have hns : (ns ++ [a]).length ≤ 4 := by rw [List.length_append, j1]; simp; omega
      have hns6 : ∀ b, b ∈ ns ++ [a] → b < 6 := fun b hb => by
        rcases List.mem_append.mp hb with q | q
        · exact j3 b q
        · simp at q; omega
      have hfold : (ns ++ [a]).foldl (fun q a => 8 * q + (a + 1)) 0 = 8 * nn 0 10 + (a + 1) := by rw [List.foldl_append, ← j4]; rfl
      obtain ⟨o1, o2⟩ := ns_okp hns hns6
      rw [hfold] at o1 o2
      refine ⟨nI (nn 0 11 + 1), c, lg, u2 (u2 z 0 10 (nI (8 * nn 0 10 + (a + 1)))) 0 11 (nI (nn 0 11 + 1)), u2 (u2 w 21 (nn 0 11) (nI a)) 20 0 (nI (nn 0 11 + 1)), n2 (n2 nn 0 10 (8 * nn 0 10 + (a + 1))) 0 11 (nn 0 11 + 1), lo, tr, wt, ?_, ?_, (hX.n rfl).n rfl, ?_, ?_, KE.rfl.mono (by omega) (by omega)⟩
      · simp only [fX7_appendName]
        rw [jr_f (nI_pos (by omega)), jr_t (show nI a ≤ (5 : Int32) from nI_le (b := 5) (by omega) (by omega)), xI11 hW, hX.2.1 0 11 rfl, jr_t (show nI (nn 0 11) < (4 : Int32) from nI_lt (b := 4) (by omega) (by omega)), xI10 hW, hX.2.1 0 10 rfl, e8, xP10 hW, xI11 hW, u2_i (by decide), hX.2.1 0 11 rfl, nI_1, xP11 hW, xI11 hW, u2_s]; rfl
      · simp only [fX8_appendName]
        rw [jr_bd (show fX8_in (nI a).toInt64 0 5 (qE c lg _ w) = _ from (m_in (x := nI a) (l := 0) (h := 5)).trans (by rw [if_neg (nI_pos (by omega)), if_neg (show ¬ (5 : Int32) < nI a from nI_nlt (b := a) (a := 5) (by omega) (by omega))])), jr_f (by decide), mI20 hW, hM.1.1.2.2.2.2.2.1, jr_f (show ¬ nI (nn 0 11) = 4 from fun q => h4 ((nI_eq (b := 4) (by omega) (by omega)).mp q)), mR21 hW, mI20 hW, hM.1.1.2.2.2.2.2.1, mS21 hW _ _ _ _ _ (by omega), mI20 hW, u2_k (by decide), hM.1.1.2.2.2.2.2.1, nI_1, mP20 hW, mI20 hW, u2_s]; rfl
      · obtain ⟨⟨⟨a0, a1, a2, a3, a4, a5, a6⟩, a7⟩, h2, h3, h4', h5, h6⟩ := hM
        refine ⟨⟨⟨?_, ?_, ?_, ?_, ?_, ?_, ?_⟩, fun i hi => ?_⟩, fun i hi => (h2 i hi).fr (fun f q1 q2 => by rw [u2_k (by omega), u2_k (by omega)]), fun i hi => (h3 i hi).fr (fun f q1 q2 => by rw [u2_k (by omega), u2_k (by omega)]), h4'.fr (fun f q1 q2 => by rw [u2_k (by omega), u2_k (by omega)]), h5.fr (by rw [u2_k (by omega), u2_k (by omega)]) (by rw [u2_k (by omega), u2_k (by omega)]) (by rw [n2_i (by decide), n2_i (by decide)]) (by rw [n2_k (by decide), n2_k (by decide)]) (by rw [n2_k (by decide), n2_k (by decide)]), ?_⟩
        · rw [u2_k (by decide), u2_k (by decide), n2_i (by decide), n2_i (by decide)]; exact a0
        · rw [u2_k (by decide), u2_k (by decide), n2_i (by decide), n2_i (by decide)]; exact a1
        · rw [u2_k (by decide), u2_k (by decide), n2_i (by decide), n2_i (by decide)]; exact a2
        · rw [u2_k (by decide), u2_k (by decide), n2_i (by decide), n2_i (by decide)]; exact a3
        · rw [u2_k (by decide), u2_k (by decide), n2_i (by decide), n2_i (by decide)]; exact a4
        · rw [u2_s, n2_s]
        · rw [u2_k (by decide), u2_k (by decide), n2_i (by decide), n2_i (by decide)]; exact a6
        · simp only [u2_k (show (1 : Nat) ≠ 20 by decide), u2_k (show (2 : Nat) ≠ 20 by decide), u2_k (show (3 : Nat) ≠ 20 by decide), u2_k (show (4 : Nat) ≠ 20 by decide), u2_k (show (1 : Nat) ≠ 21 by decide), u2_k (show (2 : Nat) ≠ 21 by decide), u2_k (show (3 : Nat) ≠ 21 by decide), u2_k (show (4 : Nat) ≠ 21 by decide), n2_k (show (1 : Nat) ≠ 0 by decide), n2_k (show (2 : Nat) ≠ 0 by decide), n2_k (show (3 : Nat) ≠ 0 by decide), n2_k (show (4 : Nat) ≠ 0 by decide), n2_i (show (4 : Nat) ≠ 11 by decide), n2_i (show (4 : Nat) ≠ 10 by decide)]
          exact a7 i hi
        · refine ⟨ns ++ [a], by rw [n2_s, List.length_append, j1]; rfl, by rw [n2_s]; omega, hns6, by rw [n2_i (by decide), n2_s, hfold], fun j b hj => ?_⟩
          rw [u2_k (by decide)]
          by_cases hjl : j < ns.length
          · rw [List.getElem?_append_left hjl] at hj
            rw [u2_i (by omega)]
            exact j5 j b hj
          · have hj2 := (List.getElem?_eq_some_iff.mp hj).1
            rw [List.length_append] at hj2
            have hj3 : j = ns.length := by simp at hj2; omega
            subst hj3
            simp at hj
            subst hj
            rw [j1, u2_s]
      · obtain ⟨-, i2, i3, ⟨i4, i5, i6⟩, i7, i8, i9, i10⟩ := hI.succ
        have k04 : n2 (n2 nn 0 10 (8 * nn 0 10 + (a + 1))) 0 11 (nn 0 11 + 1) 0 4 = nn 0 4 := by rw [n2_i (by decide), n2_i (by decide)]
        have k : ∀ k i, k ≠ 0 → n2 (n2 nn 0 10 (8 * nn 0 10 + (a + 1))) 0 11 (nn 0 11 + 1) k i = nn k i := fun k i hk => by rw [n2_k hk, n2_k hk]
        have k0 : ∀ i, i ≠ 10 → i ≠ 11 → n2 (n2 nn 0 10 (8 * nn 0 10 + (a + 1))) 0 11 (nn 0 11 + 1) 0 i = nn 0 i := fun i h1 h2 => by rw [n2_i h2, n2_i h1]
        refine ⟨⟨?_, ?_, ?_, ?_, ?_, ?_⟩, ?_, ?_, ⟨?_, ?_, ?_⟩, ?_, ?_, ?_, i10⟩
        · rw [k04]; exact b1
        · rw [k04]; exact b2
        · rw [k0 5 (by decide) (by decide)]; exact b3
        · rw [n2_i (by decide), n2_s]; exact o1
        · rw [n2_i (by decide), n2_s, n2_s]
          constructor
          · intro q; have := o2.mp q; rw [List.length_append] at this; simp at this
          · intro q; omega
        · rw [n2_s]; omega
        · simp only [k 1 _ (by decide), k 2 _ (by decide), k 3 _ (by decide), k04, k0 7 (by decide) (by decide)]; exact i2
        · simp only [k 2 _ (by decide), k0 6 (by decide) (by decide)]; exact i3
        · unfold WV; rw [k0 5 (by decide) (by decide)]; exact i4
        · simp only [k 10 _ (by decide)]; exact i5
        · rw [k0 7 (by decide) (by decide)]; exact i6
        · simp only [k 4 _ (by decide), k0 9 (by decide) (by decide)]; exact i7
        · simp only [k 3 _ (by decide), k 4 _ (by decide), k0 6 (by decide) (by decide), k0 7 (by decide) (by decide), k0 8 (by decide) (by decide), k0 9 (by decide) (by decide), k04, qm]; exact i8
        · simp only [k0 7 (by decide) (by decide), k0 8 (by decide) (by decide)]; exact i9
  · refine GO.read (v := -1) hX hM hI ?_ ?_
    · simp only [fX7_appendName]
      by_cases h0 : x < 0
      · rw [jr_t h0]; rfl
      · have h6 : nI 6 ≤ x := hx.resolve_left h0
        have h5 : ¬ x ≤ (5 : Int32) := Int32.not_le.mpr (Int32.lt_of_lt_of_le (show (5 : Int32) < nI 6 by decide +kernel) h6)
        rw [jr_f h0, jr_f h5]; rfl
    · simp only [fX8_appendName]
      have e : (if x < 0 then (0 : Int32) else if (5 : Int32) < x then 0 else 1) = 0 := by
        by_cases h0 : x < 0
        · rw [if_pos h0]
        · have h6 : nI 6 ≤ x := hx.resolve_left h0
          rw [if_neg h0, if_pos (Int32.lt_of_lt_of_le (show (5 : Int32) < nI 6 by decide +kernel) h6)]
      rw [e] at hin
      rw [jr_bd (show fX8_in x.toInt64 0 5 (qE c lg z w) = _ from hin), jr_t rfl]; rfl
end C1
