/-! ===== the first state: class, reference, invariant ===== -/
section FI
variable {n0 t0 : Nat}
def nnF : NN := nnR (fun _ _ => 0) 3
theorem RX_F (ht : t0 < n0) : RX (cF n0 t0) lF zF nnF (loS (fun _ => []) 5) (trS (fun _ => []) 5) [] := by
  refine ⟨qW_F ht, fun k i h => ?_, ⟨fun _ => [], fun i hi => ⟨rfl, fun j => rfl, by simp, show 0 ≤ 1000 by omega⟩, fun i hi => (if_pos hi).symm, rfl⟩, fun i hi => ?_⟩
  · unfold dX at h
    simp only [Bool.or_eq_true, Bool.and_eq_true, beq_iff_eq, decide_eq_true_eq] at h
    rcases h with ((⟨⟨rfl, h1⟩, h2⟩ | ⟨⟨h1, h2⟩, h3⟩) | ⟨rfl, h1⟩) | ⟨rfl, h1⟩
    · unfold nnF
      rw [nnR_0 h1 h2]
      show (if i = 4 then (3 : Int32) else if i = 6 then nI 4294967288 else 0) = _
      by_cases e : i = 4
      · rw [if_pos e, if_pos e]; rfl
      · rw [if_neg e, if_neg e]
        by_cases e2 : i = 6
        · rw [if_pos e2, if_pos e2]
        · rw [if_neg e2, if_neg e2]; rfl
    · unfold nnF
      rw [nnR_k h1 h2 h3]
      have hk : k = 1 ∨ k = 2 ∨ k = 3 ∨ k = 4 := by omega
      rcases hk with rfl | rfl | rfl | rfl
      · show (if i < 3 then (1 : Int32) else 0) = _
        by_cases e : i < 3
        · rw [if_pos e, if_pos ⟨rfl, e⟩]; rfl
        · rw [if_neg e, if_neg (fun q => e q.2)]; rfl
      · rw [if_neg (fun q => by omega)]; rfl
      · rw [if_neg (fun q => by omega)]; rfl
      · rw [if_neg (fun q => by omega)]; rfl
    · unfold nnF
      rw [nnR_e (by omega)]; rfl
    · unfold nnF
      rw [nnR_e (by omega)]; rfl
  · have e : slots zF i = [] := by
      unfold slots sl
      rw [List.filterMap_eq_nil_iff]
      intro a _
      exact if_pos rfl
    have e2 : trS (fun _ => []) 5 i = ([] : List ND) := by
      unfold trS
      split <;> rfl
    rw [e, e2]
theorem law_first {L : Nat} {xs : Nat → Int32} (ht : t0 < n0) : ∃ w', fL_law L xs (qB n0 t0 (fun _ => none) 0 0) = fL_law_18 L xs 4096 (some ((cF n0 t0).1 0 0)) (some ((cF n0 t0).1 20 0)) (nI (3 * 0)) (qE (cF n0 t0) lF zF w') ∧ RM w' nnF (loS (fun _ => []) 5) (trS (fun _ => []) 5) [] := by
  obtain ⟨w', e1, e2⟩ := m_begins (c := cF n0 t0) (lg := lF) (z := zF) (w := wF) (n := 3) (nn := nnF) (lo := loS (fun _ => []) 5) (tr := trS (fun _ => []) 5) (qW_F ht) (nnR_0 (by omega) (by omega)) (nnR_0 (by omega) (by omega)) ⟨nnR_0 (by omega) (by omega), nnR_0 (by omega) (by omega), nnR_0 (by omega) (by omega), nnR_0 (by omega) (by omega), nnR_0 (by omega) (by omega), nnR_0 (by omega) (by omega)⟩ (fun i hi => by unfold nnF; rw [nnR_k (by omega) (by omega) (by omega), if_pos ⟨rfl, hi⟩]) (fun i hi => ⟨by unfold nnF; rw [nnR_k (by omega) (by omega) hi]; simp, by unfold nnF; rw [nnR_k (by omega) (by omega) hi]; simp, by unfold nnF; rw [nnR_k (by omega) (by omega) hi]; simp⟩) (fun i hi => if_pos hi) (fun i hi => if_pos hi) (fun j hj => by unfold nnF; rw [nnR_e (by omega)]; rfl)
  refine ⟨w', ?_, e2⟩
  have a20 : (cF n0 t0).1 20 0 = n0 + 111 := rfl
  rw [a20] at e1
  have e3 : (jm_bd (fX8_begins (n0 + 111) 3) fun _ => jm_ret ()) (qB n0 t0 (tM n0 t0) 133 1951) = some ((), qE (cF n0 t0) lF zF w') := by
    rw [qB_F ht, jr_bd (show fX8_begins (n0 + 111) 3 (qE (cF n0 t0) lF zF wF) = _ from e1)]
    rfl
  unfold fL_law
  rw [bN ht]
  refine (jr_bd (b_x7 ht)).trans ?_
  rw [bN ht]
  refine (jr_bd ((b_m8 ht).trans e3)).trans ?_
  rfl
theorem qB_0 : ((fun a => if a = t0 then some jm_fz else none, n0, 0, t0) : jm_S) = qB n0 t0 (fun _ => none) 0 0 := by
  refine Prod.ext ?_ rfl
  funext a
  show (if a = t0 then some jm_fz else none) = (if a = t0 then _ else if a < n0 then _ else _)
  by_cases h : a = t0
  · rw [if_pos h, if_pos h]
  · rw [if_neg h, if_neg h]
    split <;> rfl
theorem law_all {L : Nat} {xs : Nat → Int32} (hL : L ≤ 1536) (ht : t0 < n0) : ∃ Sf : jm_S, fL_law L xs (fun a => if a = t0 then some jm_fz else none, n0, 0, t0) = some (1, Sf) ∧ Sf.2.1 ≤ n0 + 600000 ∧ Sf.2.2.1 ≤ 0 + 7302250 := by
  obtain ⟨w', e1, e2⟩ := law_first (L := L) (xs := xs) ht
  have hI : INV 0 nnF (loS (fun _ => []) 5) (trS (fun _ => []) 5) [] := INV_reset (by omega) (by omega) (fun k _ => Nat.le_refl 0)
  obtain ⟨Sf, f1, f2, f3⟩ := law_loop (L := L) (xs := xs) (fun x => p_reset x) hL 512 0 (cF n0 t0) lF zF w' nnF _ _ _ (by omega) (by omega) (by omega) (RX_F ht) e2 hI 4096 (by omega)
  refine ⟨Sf, ?_, ?_, ?_⟩
  · rw [qB_0, e1, f1]
  · have h : (cF n0 t0).2.2.2.2.2.1 = n0 + 133 := rfl
    omega
  · have h : (cF n0 t0).2.2.2.2.2.2.1 = 1951 := rfl
    omega
end FI
