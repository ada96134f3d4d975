/-! ===== java.util.ArrayList.add ===== -/
section LA
variable {c : CX} {lg : LG} {z w : ZZ}
/-- the addresses of c' go on from those of c, list i's row aside -/
def CE (c c' : CX) (i : Nat) : Prop := (∀ k j, ¬ (k = 7 ∧ j = i) → c'.1 k j = c.1 k j) ∧ (∀ a k j, c.2.1 a = some (k, j) → k ≠ 7 → c'.2.1 a = some (k, j)) ∧ (∀ j, j ≠ i → c'.2.2.1 j = c.2.2.1 j) ∧ c'.2.2.2.1 = c.2.2.2.1 ∧ c.2.2.2.2.2.1 ≤ c'.2.2.2.2.2.1 ∧ c.2.2.2.2.2.2.1 ≤ c'.2.2.2.2.2.2.1
theorem CE.rfl {i : Nat} : CE c c i := ⟨fun _ _ _ => _root_.rfl, fun _ _ _ h _ => h, fun _ _ => _root_.rfl, _root_.rfl, Nat.le_refl _, Nat.le_refl _⟩
theorem cG_E {i m : Nat} (hW : qW c lg) : CE c (cG c lg i m) i :=
  ⟨fun k j h => cG_1 h, fun a k j h hk => cG_t hW h (fun q => hk q.1), fun j hj => if_neg hj, _root_.rfl, Nat.le_succ _, Nat.le_add_right _ _⟩
/-- the row of list i after growth -/
theorem l_grow {i : Nat} {l : List Nat} (hW : qW c lg) (hi : i < 6) (h : LI c lg z i l) (hl : l.length ≤ 39) (hc : l.length = c.2.2.1 i) : ∃ m g, fJx4a65c_grow_d5877 (c.1 6 i) (qE c lg z w) = some (some c.2.2.2.2.2.1, qE (cG c lg i m) (va_up lg i g) z w) ∧ l.length < m ∧ m ≤ 58 ∧ (∀ j, g j = l[j]?) := by
  obtain ⟨a, b, d, e⟩ := id h
  have t6 := hW.t (qx6 hi)
  have n6 := (hW.1 _ _ t6).1
  have hp : ∀ (m : Nat) (g : Nat → Option Nat), jm_p (some (c.1 6 i)) 0 1 (.inr (some c.2.2.2.2.2.1)) (va_up (qE c lg z w).1 c.2.2.2.2.2.1 (some (.inl (5, m, .inr g))), c.2.2.2.2.2.1 + 1, c.2.2.2.2.2.2.1 + m, c.2.2.2.2.2.2.2) = some (qE (cG c lg i m) (va_up lg i g) z w) := by
    intro m g
    have h1 : jm_ob (va_up (qE c lg z w).1 c.2.2.2.2.2.1 (some (.inl (5, m, .inr g))), c.2.2.2.2.2.1 + 1, c.2.2.2.2.2.2.1 + m, c.2.2.2.2.2.2.2) (some (c.1 6 i)) 0 = some (c.1 6 i, [.inl (z 9 i), .inr (some (c.1 7 i)), .inl (z 20 i)]) := by
      unfold jm_ob
      simp only [va_up, if_neg (show c.1 6 i ≠ c.2.2.2.2.2.1 by omega), qE_at t6, cel, if_true]
    unfold jm_p
    simp only [h1]
    rw [if_pos (by show 1 < 3; omega), ← qE_grow hW hi]
    rfl
  have hnq : ∀ (m : Nat), m ≤ 1000 → jm_nq 5 (nI m) (qE c lg z w) = some (some c.2.2.2.2.2.1, (va_up (qE c lg z w).1 c.2.2.2.2.2.1 (some (.inl (5, m, .inr (fun _ => none)))), c.2.2.2.2.2.1 + 1, c.2.2.2.2.2.2.1 + m, c.2.2.2.2.2.2.2)) := by
    intro m hm
    unfold jm_nq
    rw [nI_clamp (by omega), if_neg]
    · rfl
    · rintro (q | q)
      · exact nI_pos (by omega) q
      · omega
  unfold fJx4a65c_grow_d5877
  rw [jr_rd (rL hW hi).2.2.2, jr_rd (rL hW hi).1, a, nI_1]
  rcases hW.2.2.2.1 i hi with ⟨h1, h2⟩ | ⟨h1, h2⟩
  · -- the shared empty row
    have hl0 : l = [] := List.eq_nil_of_length_eq_zero (by omega)
    subst hl0
    have t14 := hW.t (show qx 14 0 = true from rfl)
    rw [hW.2.2.2.2.1] at t14
    refine ⟨10, fun _ => none, ?_, by simp, by omega, fun j => by simp⟩
    have hg : fJx4a65c_grow_92f84 (c.1 6 i) (nI 1) (qE c lg z w) = some (some c.2.2.2.2.2.1, qE (cG c lg i 10) (va_up lg i (fun _ => none)) z w) := by
      unfold fJx4a65c_grow_92f84
      have hlq : jm_lq (some (c.1 7 i)) 5 (qE c lg z w) = some 0 := by
        unfold jm_lq
        rw [if_pos ⟨rfl, by rw [h2]; rfl⟩, if_neg]
        show (qE c lg z w).1 c.2.2.2.2.2.2.2 ≠ none
        rw [qE_at t14]
        simp
      rw [jr_rd (rL hW hi).2.2.1, jr_rd hlq, jr_f (by decide), jr_rd (rL hW hi).2.2.1, jr_rd (show jm_t0 (qE c lg z w) = some (some c.2.2.2.2.2.2.2) from rfl), h2, jr_t rfl, if_neg (by decide), jr_bd (show jm_nq 5 10 (qE c lg z w) = _ from hnq 10 (by omega)), jr_wr (hp 10 _)]
      rfl
    show jm_bd (fJx4a65c_grow_92f84 (c.1 6 i) (nI 1)) (fun v2 => jm_ret v2) (qE c lg z w) = _
    rw [jr_bd hg]
    rfl
  · have ht0 : c.1 7 i ≠ c.2.2.2.2.2.2.2 := by
      intro q
      have t14 := hW.t (show qx 14 0 = true from rfl)
      rw [hW.2.2.2.2.1, ← q, h2] at t14
      cases t14
    have n7 := (hW.1 _ _ h2).1
    have hlq : ∀ z, jm_lq (some (c.1 7 i)) 5 (qE c lg z w) = some (nI l.length) := fun z => by rw [hc]; exact jr_lq h2 rfl (Or.inr ht0)
    let m := l.length + (if 1 < l.length / 2 then l.length / 2 else 1)
    have hm : l.length < m ∧ m ≤ 58 := by
      show l.length < l.length + _ ∧ l.length + _ ≤ 58
      split <;> omega
    let g : Nat → Option Nat := va_cpy (lg i) (fun _ => none) 0 0 l.length
    refine ⟨m, g, ?_, hm.1, hm.2, fun j => ?_⟩
    · have hnl : ∀ S : jm_S, fJ8_newLength_cabcc (nI l.length) (nI (l.length + 1) - nI l.length) (nI l.length >>> (1 &&& 31)) S = some (nI m, S) := by
        intro S
        have e1 : nI (l.length + 1) - nI l.length = nI 1 := by rw [nI_sub (by omega)]; congr 1; omega
        have e2 : nI l.length >>> ((1 : Int32) &&& 31) = nI (l.length / 2) := pk_shrN (by omega) _ 1 (by decide)
        have e3 : (if nI 1 < nI (l.length / 2) then nI (l.length / 2) else nI 1) = nI (if 1 < l.length / 2 then l.length / 2 else 1) := by
          by_cases q : 1 < l.length / 2
          · rw [if_pos q, if_pos (nI_lt q (by omega))]
          · rw [if_neg q, if_neg (nI_nlt (by omega) (by omega))]
        have e4 : nI l.length + nI (if 1 < l.length / 2 then l.length / 2 else 1) = nI m := nI_add _ _
        unfold fJ8_newLength_cabcc
        rw [e1, e2, e3, e4, jr_f (nI_nle (by omega) (by omega)), jr_f (show ¬ (2147483639 : Int32) < nI m from nI_nlt (a := 2147483639) (by omega) (by omega))]
        rfl
      have hcp : ∀ (S : jm_S), S = (va_up (qE c lg z w).1 c.2.2.2.2.2.1 (some (.inl (5, m, .inr (fun _ => none)))), c.2.2.2.2.2.1 + 1, c.2.2.2.2.2.2.1 + m, c.2.2.2.2.2.2.2) → jm_lq (some (c.1 7 i)) 5 S = some (nI l.length) ∧ jm_cp (some (c.1 7 i)) 0 (some c.2.2.2.2.2.1) 0 (if nI m < nI l.length then nI m else nI l.length) S = some (va_up (qE c lg z w).1 c.2.2.2.2.2.1 (some (.inl (5, m, .inr g))), c.2.2.2.2.2.1 + 1, c.2.2.2.2.2.2.1 + m, c.2.2.2.2.2.2.2) := by
        intro S hS
        subst hS
        have q1 : jm_aq (va_up (qE c lg z w).1 c.2.2.2.2.2.1 (some (.inl (5, m, .inr (fun _ => none)))), c.2.2.2.2.2.1 + 1, c.2.2.2.2.2.2.1 + m, c.2.2.2.2.2.2.2) (some (c.1 7 i)) 5 = some (c.1 7 i, c.2.2.1 i, lg i) := by
          unfold jm_aq
          simp only [va_up, if_neg (show c.1 7 i ≠ c.2.2.2.2.2.1 by omega), qE_at h2, cel, if_true]
        have q2 : jm_aq (va_up (qE c lg z w).1 c.2.2.2.2.2.1 (some (.inl (5, m, .inr (fun _ => none)))), c.2.2.2.2.2.1 + 1, c.2.2.2.2.2.2.1 + m, c.2.2.2.2.2.2.2) (some c.2.2.2.2.2.1) 5 = some (c.2.2.2.2.2.1, m, fun _ => none) := by
          unfold jm_aq
          simp only [va_up, if_true]
        constructor
        · unfold jm_lq
          rw [if_neg (fun q => ht0 (Option.some.inj q.2)), q1, hc]
          rfl
        · have e0 : (if nI m < nI l.length then nI m else nI l.length) = nI l.length := if_neg (nI_nlt (by omega) (by omega))
          rw [e0]
          unfold jm_cp
          simp only [q1, q2]
          have z0 : (0 : Int32).toNatClampNeg = 0 := by decide
          rw [if_neg, if_pos, nI_clamp (by omega), z0]
          · congr 2
            funext b
            by_cases hb : b = c.2.2.2.2.2.1 <;> simp [va_up, hb, g]
          · rw [List.all_eq_true]
            intro j _
            have hf := l_fitO (j := (0 : Int32).toNatClampNeg + j) (z := z) (w := w) hW hi
            cases hq : lg i ((0 : Int32).toNatClampNeg + j) with
            | none => rfl
            | some v =>
              rw [hq] at hf
              have hv : v < c.2.2.2.2.2.1 := by
                by_cases h5 : i < 5
                · exact (hW.1 _ _ (hW.2.2.2.2.2.1 i _ v h5 hq)).1
                · have e5 : i = 5 := by omega
                  subst e5
                  exact (hW.1 _ _ (hW.2.2.2.2.2.2 _ v hq)).1
              unfold jm_fit at hf ⊢
              simp only [va_up, if_neg (show v ≠ c.2.2.2.2.2.1 by omega)]
              exact hf
          · rw [nI_clamp (by omega), z0]
            rintro (q | q)
            · rcases q with q | q | q
              · exact absurd q (by decide)
              · exact absurd q (by decide)
              · exact nI_pos (by omega) q
            · omega
      have hco : fJ7_copyOf_1904c (some (c.1 7 i)) (nI m) (qE c lg z w) = some (some c.2.2.2.2.2.1, (va_up (qE c lg z w).1 c.2.2.2.2.2.1 (some (.inl (5, m, .inr g))), c.2.2.2.2.2.1 + 1, c.2.2.2.2.2.2.1 + m, c.2.2.2.2.2.2.2)) := by
        unfold fJ7_copyOf_1904c
        have hgc : jm_gc (some (c.1 7 i)) (qE c lg z w) = some () := by
          unfold jm_gc
          simp only [jr_aq h2 rfl]
        have hco1 : fJ7_copyOf_6403c (some (c.1 7 i)) (nI m) (qE c lg z w) = some (some c.2.2.2.2.2.1, (va_up (qE c lg z w).1 c.2.2.2.2.2.1 (some (.inl (5, m, .inr g))), c.2.2.2.2.2.1 + 1, c.2.2.2.2.2.2.1 + m, c.2.2.2.2.2.2.2)) := by
          unfold fJ7_copyOf_6403c
          rw [jr_bd (hnq m (by omega)), jr_rd (hcp _ rfl).1, jr_wr (hcp _ rfl).2]
          rfl
        rw [jr_rd hgc, jr_bd hco1]
        rfl
      have hg : fJx4a65c_grow_92f84 (c.1 6 i) (nI (l.length + 1)) (qE c lg z w) = some (some c.2.2.2.2.2.1, qE (cG c lg i m) (va_up lg i g) z w) := by
        unfold fJx4a65c_grow_92f84
        rw [jr_rd (rL hW hi).2.2.1, jr_rd (hlq z), jr_t (show (0 : Int32) < nI l.length from nI_lt (a := 0) (by omega) (by omega))]
        unfold fJx4a65c_grow_92f84_20
        rw [jr_bd (hnl _), jr_rd (rL hW hi).2.2.1, jr_bd hco, jr_wr (hp m g)]
        rfl
      rw [jr_bd hg]
      rfl
    · show va_cpy (lg i) (fun _ => none) 0 0 l.length j = _
      by_cases hj : j < l.length
      · rw [pk_cpy_in (by omega) (by omega), ← b]
        congr 1
        omega
      · rw [pk_cpy_out (by omega), List.getElem?_eq_none (by omega)]
theorem l_add {i a0 : Nat} {l : List Nat} (hW : qW c lg) (hi : i < 6) (h : LI c lg z i l) (hl : l.length ≤ 39) (h8 : i < 5 → c.2.1 a0 = some (8, a0)) (h13 : i = 5 → c.2.1 a0 = some (13, a0)) : ∃ c' lg' x, fJx4a65c_add_9ea2d (c.1 6 i) (some a0) (qE c lg z w) = some (1, qE c' lg' (u2 (u2 z 9 i x) 20 i (nI (l.length + 1))) w) ∧ qW c' lg' ∧ (∀ i', i' ≠ i → lg' i' = lg i') ∧ LI c' lg' (u2 (u2 z 9 i x) 20 i (nI (l.length + 1))) i (l ++ [a0]) ∧ CE c c' i ∧ c'.2.2.2.2.2.1 ≤ c.2.2.2.2.2.1 + 1 ∧ c'.2.2.2.2.2.2.1 ≤ c.2.2.2.2.2.2.1 + 58 := by
  have hL := h
  obtain ⟨a, b, d, e⟩ := h
  -- the last steps, over a row with room
  have fin : ∀ (c' : CX) (lg1 : LG), qW c' lg1 → CE c c' i → (∀ i', i' ≠ i → lg1 i' = lg i') → (∀ j, lg1 i j = l[j]?) → l.length < c'.2.2.1 i → c'.2.2.1 i ≤ 1000 → ∃ lg', fJx4a65c_add_72be8_11 (c.1 6 i) (some a0) (some (c'.1 7 i)) (nI l.length) (qE c' lg1 (u2 z 9 i (z 9 i + 1)) w) = some ((), qE c' lg' (u2 (u2 z 9 i (z 9 i + 1)) 20 i (nI (l.length + 1))) w) ∧ qW c' lg' ∧ (∀ i', i' ≠ i → lg' i' = lg i') ∧ LI c' lg' (u2 (u2 z 9 i (z 9 i + 1)) 20 i (nI (l.length + 1))) i (l ++ [a0]) := by
    intro c' lg1 hW' hE h1 h2 h3 h4
    have ht : c'.2.1 (c'.1 7 i) = some (7, i) := by
      rcases hW'.2.2.2.1 i hi with ⟨q, -⟩ | ⟨-, q⟩
      · omega
      · exact q
    have t8 : ∀ j x, i < 5 → va_up (lg1 i) l.length (some a0) j = some x → c'.2.1 x = some (8, x) := by
      intro j x h5 hx
      by_cases hj : j = l.length
      · subst hj
        simp only [va_up, if_true, Option.some.injEq] at hx
        subst hx
        exact hE.2.1 _ _ _ (h8 h5) (by decide)
      · simp only [va_up, if_neg hj] at hx
        exact hW'.2.2.2.2.2.1 i j x h5 hx
    have t13 : ∀ j x, i = 5 → va_up (lg1 i) l.length (some a0) j = some x → c'.2.1 x = some (13, x) := by
      intro j x h5 hx
      by_cases hj : j = l.length
      · subst hj
        simp only [va_up, if_true, Option.some.injEq] at hx
        subst hx
        exact hE.2.1 _ _ _ (h13 h5) (by decide)
      · simp only [va_up, if_neg hj] at hx
        subst h5
        exact hW'.2.2.2.2.2.2 j x hx
    have hW2 := hW'.lgs t8 t13
    have hfit : jm_fit (qE c' lg1 (u2 z 9 i (z 9 i + 1)) w) 5 (some a0) = true := by
      by_cases h5 : i < 5
      · have t := hE.2.1 _ _ _ (h8 h5) (by decide)
        simp [jm_fit, qE_at t, cel]
      · have t := hE.2.1 _ _ _ (h13 (by omega)) (by decide)
        simp [jm_fit, qE_at t, cel]
    refine ⟨_, ?_, hW2, fun i' hi' => ?_, by rw [u2_s, List.length_append]; rfl, fun j => ?_, by rw [List.length_append]; exact h3, h4⟩
    · unfold fJx4a65c_add_72be8_11
      have ew := w7 (z := u2 z 9 i (z 9 i + 1)) (w := w) (x := some a0) hW' ht h3 h4 hfit
      rw [jr_wr ew, ← hE.1 6 i (by simp), jr_wr (wL hW2 hi).2, nI_1]
      rfl
    · rw [← h1 i' hi']
      simp [va_up, hi']
    · simp only [va_up, if_true]
      by_cases hj : j = l.length
      · subst hj
        simp
      · rw [if_neg hj, h2]
        by_cases hj2 : j < l.length
        · rw [List.getElem?_append_left hj2]
        · rw [List.getElem?_eq_none (by omega), List.getElem?_eq_none (by simp; omega)]
  have hL1 : LI c lg (u2 z 9 i (z 9 i + 1)) i l := hL.keep (by rw [u2_k (by decide)]) rfl rfl
  have hlq : jm_lq (some (c.1 7 i)) 5 (qE c lg (u2 z 9 i (z 9 i + 1)) w) = some (nI (c.2.2.1 i)) := by
    rcases hW.2.2.2.1 i hi with ⟨h1, h2⟩ | ⟨h1, h2⟩
    · have t14 := hW.t (show qx 14 0 = true from rfl)
      rw [hW.2.2.2.2.1] at t14
      unfold jm_lq
      rw [if_pos ⟨rfl, by rw [h2]; rfl⟩, if_neg, h1]
      · rfl
      · show (qE c lg _ w).1 c.2.2.2.2.2.2.2 ≠ none
        rw [qE_at t14]
        simp
    · refine jr_lq h2 rfl (Or.inr ?_)
      intro q
      have t14 := hW.t (show qx 14 0 = true from rfl)
      rw [hW.2.2.2.2.1, ← q, h2] at t14
      cases t14
  have step : ∀ {c' : CX} {lg' : LG} {z' : ZZ}, fJx4a65c_add_72be8 (c.1 6 i) (some a0) (some (c.1 7 i)) (nI l.length) (qE c lg (u2 z 9 i (z 9 i + 1)) w) = some ((), qE c' lg' z' w) → fJx4a65c_add_9ea2d (c.1 6 i) (some a0) (qE c lg z w) = some (1, qE c' lg' z' w) := by
    intro c' lg' z' hq
    unfold fJx4a65c_add_9ea2d
    rw [jr_rd (rL hW hi).2.1, jr_wr (wL hW hi).1, jr_rd (rL hW hi).2.2.1, jr_rd (rL hW hi).2.2.2, jr_rd (rL hW hi).1, u2_k (show (20 : Nat) ≠ 9 by decide), a, jr_bd hq]
    rfl
  by_cases hc : l.length = c.2.2.1 i
  · obtain ⟨m, g, e1, e2, e3, e4⟩ := l_grow (w := w) hW hi hL1 hl hc
    have hm : (cG c lg i m).2.2.1 i = m := if_pos rfl
    have hgs : ∀ j x, g j = some x → ∃ j', lg i j' = some x := fun j x hx => ⟨j, by rw [b, ← e4]; exact hx⟩
    obtain ⟨lg', f1, f2, f3, f4⟩ := fin (cG c lg i m) (va_up lg i g) (cG_W hW hi (by omega) hgs) (cG_E hW) (fun i' hi' => by simp [va_up, hi']) (fun j => by simp only [va_up, if_true]; exact e4 j) (by rw [hm]; exact e2) (by rw [hm]; omega)
    refine ⟨_, lg', _, step ?_, f2, f3, f4, cG_E hW, Nat.le_refl _, by show c.2.2.2.2.2.2.1 + m ≤ _; omega⟩
    unfold fJx4a65c_add_72be8
    rw [cG_7] at f1
    rw [jr_rd hlq, jr_t (by rw [hc]), jr_rd (rL hW hi).1, jr_bd e1]
    exact f1
  · obtain ⟨lg', f1, f2, f3, f4⟩ := fin c lg hW CE.rfl (fun _ _ => rfl) b (by omega) e
    refine ⟨_, lg', _, step ?_, f2, f3, f4, CE.rfl, by omega, by omega⟩
    unfold fJx4a65c_add_72be8
    rw [jr_rd hlq, jr_f (fun q => hc ((nI_eq (by omega) (by omega)).mp q))]
    exact f1
end LA
