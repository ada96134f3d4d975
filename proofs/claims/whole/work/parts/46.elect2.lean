/-! ===== an election, the class's side ===== -/
section EX
variable {c : CX} {lg : LG} {z w : ZZ} {N : Nat} {nn : NN} {lo : Nat → List TX} {tr : Nat → List ND} {wt : List WT}
theorem x_ahead {b s : Nat} (hX : RX c lg z nn lo tr wt) (hb : b < 5) (hs : s < 5) (hll : ∀ i, i < 5 → (lo i).length ≤ 40) (h3 : ∀ i, i < 5 → nn 3 i < 2 ^ 31) (hid : ∀ i, i < 5 → nid (lo i) < 2 ^ 31) : fX1_isAheadOf (c.1 2 b) (some (c.1 2 s)) (qE c lg z w) = some (if ahd nn lo b s = true then 0 else 1, qE c lg z w) := by
  have hW := hX.1
  have q1 := h3 b hb
  have q2 := h3 s hs
  have q3 := hid b hb
  have q4 := hid s hs
  unfold fX1_isAheadOf
  rw [sI5 hW _ _ _ _ hb, hX.2.1 3 b (by simp [dX, hb]), sI5 hW _ _ _ _ hs, hX.2.1 3 s (by simp [dX, hs])]
  by_cases e : nn 3 b = nn 3 s
  · rw [jr_t (by rw [e]), sO hW _ _ _ _ hb, jr_bd (x_newest w hX hb (hll b hb)), sO hW _ _ _ _ hs, jr_bd (x_newest w hX hs (hll s hs))]
    by_cases h : nid (lo b) ≤ nid (lo s)
    · rw [jr_t (nI_le h q4), if_pos (by simp [ahd]; omega)]; rfl
    · rw [jr_f (nI_ge (by omega) q3), if_neg (by simp [ahd]; omega)]; rfl
  · rw [jr_f (fun q => e ((nI_eq q1 q2).mp q)), sI5 hW _ _ _ _ hb, hX.2.1 3 b (by simp [dX, hb]), sI5 hW _ _ _ _ hs, hX.2.1 3 s (by simp [dX, hs])]
    by_cases h : nn 3 b ≤ nn 3 s
    · rw [jr_t (nI_le h q2), if_pos (by simp [ahd]; omega)]; rfl
    · rw [jr_f (nI_ge (by omega) q1), if_neg (by simp [ahd]; omega)]; rfl
theorem x_best_l {R : Option Nat} (hR : bst nn lo 5 = R) (hX : RX c lg z nn lo tr wt) (hu : ∀ i, i < 5 → nn 1 i ≤ 1) (hll : ∀ i, i < 5 → (lo i).length ≤ 40) (h3 : ∀ i, i < 5 → nn 3 i < 2 ^ 31) (hid : ∀ i, i < 5 → nid (lo i) < 2 ^ 31) : ∀ n j, j + n = 5 → ∀ f, n < f → fX7_bestCandidate_13 f ((bst nn lo j).map (c.1 2)) (some (c.1 1 0)) (nI 5) (nI j) (qE c lg z w) = some (R.map (c.1 2), qE c lg z w) := by
  intro n
  induction n with
  | zero =>
    intro j hj f hf
    obtain ⟨f, rfl⟩ : ∃ k', f = k' + 1 := ⟨f - 1, by omega⟩
    rw [fX7_bestCandidate_13, jr_t (nI_le (by omega) (by omega)), show j = 5 by omega, hR]; rfl
  | succ n ih =>
    intro j hj f hf
    obtain ⟨f, rfl⟩ : ∃ k', f = k' + 1 := ⟨f - 1, by omega⟩
    have hj5 : j < 5 := by omega
    have e := ih (j + 1) (by omega) f (by omega)
    simp only [bst] at e
    have hbj := hu j hj5
    rw [fX7_bestCandidate_13, jr_f (nI_ge (by omega) (by omega)), xSg hX.1 _ _ _ _ hj5, sI3 hX.1 _ _ _ _ hj5, hX.2.1 1 j (by simp [dX, hj5])]
    by_cases q : nn 1 j = 1
    · rw [if_pos q] at e
      rw [jr_f (fun e => by have := (nI_e0 (by omega)).mp e; omega)]
      cases hb : bst nn lo j with
      | none =>
        rw [hb] at e
        rw [jr_t (show Option.map (c.1 2) none = none from rfl), nI_1]; exact e
      | some b =>
        rw [hb] at e
        simp only at e
        have hb5 : b < 5 := by have := (bst_some hb).1; omega
        rw [show Option.map (c.1 2) (some b) = some (c.1 2 b) from rfl, jr_f (by simp), sO hX.1 _ _ _ _ hb5, jr_bd (x_ahead hX hb5 hj5 hll h3 hid)]
        by_cases ha : ahd nn lo b j = true
        · rw [if_pos ha] at e
          rw [if_pos ha, jr_t rfl, nI_1]; exact e
        · rw [if_neg ha] at e
          rw [if_neg ha, jr_f (by decide), nI_1]; exact e
    · rw [if_neg q] at e
      rw [jr_t (by rw [show nn 1 j = 0 by omega]; rfl), nI_1]; exact e
theorem x_best (hX : RX c lg z nn lo tr wt) (hu : ∀ i, i < 5 → nn 1 i ≤ 1) (hll : ∀ i, i < 5 → (lo i).length ≤ 40) (h3 : ∀ i, i < 5 → nn 3 i < 2 ^ 31) (hid : ∀ i, i < 5 → nid (lo i) < 2 ^ 31) : fX7_bestCandidate (c.1 0 0) (qE c lg z w) = some ((bst nn lo 5).map (c.1 2), qE c lg z w) := by
  unfold fX7_bestCandidate
  rw [xR0 hX.1, xSl hX.1]
  exact x_best_l rfl hX hu hll h3 hid 5 0 (by omega) 4096 (by omega)
/-- the servers below j are made like the chosen one -/
def nnP (n0 nn : NN) (E j : Nat) : NN := fun k i => if k = 2 ∧ i < j ∧ nn 1 i = 1 then 1 else if k = 3 ∧ i < j ∧ nn 1 i = 1 then E else n0 k i
def loP (nn : NN) (lo : Nat → List TX) (g j : Nat) : Nat → List TX := fun i => if i < j ∧ nn 1 i = 1 then lo g else lo i
theorem nnP_s {n0 : NN} {E j : Nat} (h : nn 1 j = 1) : n2 (n2 (nnP n0 nn E j) 2 j 1) 3 j E = nnP n0 nn E (j + 1) := by
  funext k i
  unfold n2 nnP
  by_cases e : i = j
  · subst e
    by_cases h2 : k = 2
    · subst h2; simp [h]
    · by_cases h3 : k = 3
      · subst h3; simp [h]
      · simp [h2, h3]
  · have h1 : (i < j + 1) = (i < j) := by simp; omega
    simp [e, h1]
theorem nnP_n {n0 : NN} {E j : Nat} (h : nn 1 j ≠ 1) : nnP n0 nn E (j + 1) = nnP n0 nn E j := by
  funext k i
  unfold nnP
  by_cases e : i = j
  · subst e; simp [h]
  · have h1 : (i < j + 1) = (i < j) := by simp; omega
    simp [h1]
theorem nnP_k {n0 : NN} {E j k i : Nat} (h2 : k ≠ 2) (h3 : k ≠ 3) : nnP n0 nn E j k i = n0 k i := by simp [nnP, h2, h3]
theorem loP_s {g j : Nat} (h : nn 1 j = 1) : va_up (loP nn lo g j) j (lo g) = loP nn lo g (j + 1) := by
  funext i
  by_cases e : i = j
  · subst e; rw [va_s]; unfold loP; rw [if_pos ⟨by omega, h⟩]
  · rw [va_n e]
    unfold loP
    by_cases q : i < j ∧ nn 1 i = 1
    · rw [if_pos q, if_pos ⟨by omega, q.2⟩]
    · rw [if_neg q, if_neg (fun r => q ⟨by omega, r.2⟩)]
theorem loP_n {g j : Nat} (h : nn 1 j ≠ 1) : loP nn lo g (j + 1) = loP nn lo g j := by
  funext i
  unfold loP
  by_cases q : i < j ∧ nn 1 i = 1
  · rw [if_pos q, if_pos ⟨by omega, q.2⟩]
  · rw [if_neg q, if_neg (fun r => by
      by_cases e : i = j
      · subst e; exact h r.2
      · exact q ⟨by omega, r.2⟩)]
theorem loP_g {g j : Nat} : loP nn lo g j g = lo g := by
  unfold loP
  split <;> rfl
theorem loP_j {g j : Nat} : loP nn lo g j j = lo j := if_neg (fun q => by omega)
theorem loP_len {g j : Nat} (hg : g < 5) (h : ∀ i, i < 5 → (lo i).length ≤ 40) : ∀ i, i < 5 → (loP nn lo g j i).length ≤ 40 := fun i hi => by
  unfold loP
  split
  · exact h g hg
  · exact h i hi
/-- the first loop of beginEpoch -/
theorem x_beg_l {g E : Nat} {n0 : NN} (w : ZZ) (hI : INV N nn lo tr wt) (hg : g < 5) (hn1 : ∀ i, n0 1 i = nn 1 i) (hE : n0 0 7 = E) : ∀ n j (c : CX) (lg : LG) (z : ZZ), j + n = 5 → RX c lg z (nnP n0 nn E j) (loP nn lo g j) tr wt → ∀ f, n < f → ∃ c' lg' z', fX7_beginEpoch_31 f (c.1 0 0) (some (c.1 2 g)) (some (c.1 1 0)) (nI 5) (nI j) (qE c lg z w) = (jm_wr (jm_p (some (c'.1 0 0)) 8 9 (.inl (nI (lo g).length))) <| jm_rd (jm_gR (some (c'.1 0 0)) 8 0) fun v11 => jm_rd (jm_lq v11 3) fun v12 => fX7_beginEpoch_101 4096 (c'.1 0 0) (some (c'.1 2 g)) v11 v12 0) (qE c' lg' z' w) ∧ RX c' lg' z' (nnP n0 nn E 5) (loP nn lo g 5) tr wt ∧ KE c c' (40 * n) (2320 * n) := by
  intro n
  induction n with
  | zero =>
    intro j c lg z hj hX f hf
    obtain ⟨f, rfl⟩ : ∃ k', f = k' + 1 := ⟨f - 1, by omega⟩
    refine ⟨c, lg, z, ?_, by rw [show 5 = j by omega]; exact hX, KE.rfl⟩
    rw [fX7_beginEpoch_31, jr_t (nI_le (by omega) (by omega)), sR2 hX.1 _ _ _ _ hg, lO hX.1 _ _ _ _ (by omega), lS hX.1 _ _ _ _ (by omega), hX.len.2 g hg, loP_g]
  | succ n ih =>
    intro j c lg z hj hX f hf
    obtain ⟨f, rfl⟩ : ∃ k', f = k' + 1 := ⟨f - 1, by omega⟩
    have hj5 : j < 5 := by omega
    have hu := (hI.2.1 j hj5).1
    have h1j : nnP n0 nn E j 1 j = nn 1 j := by rw [nnP_k (by decide) (by decide)]; exact hn1 j
    rw [fX7_beginEpoch_31, jr_f (nI_ge (by omega) (by omega)), xSg hX.1 _ _ _ _ hj5, sI3 hX.1 _ _ _ _ hj5, hX.2.1 1 j (by simp [dX, hj5]), h1j]
    by_cases q : nn 1 j = 1
    · have hll := loP_len (nn := nn) (j := j) hg hI.ll
      obtain ⟨c1, lg1, z1, e1, e2, e3⟩ := x_copy w hX hj5 hg (hll j hj5) (hll g hg)
      have hca := copy_all hI hj5 hg
      rw [loP_j, loP_g] at e2
      rw [hca, loP_s q] at e2
      have hX2 := (e2.n (k := 2) (i := j) (v := 1) (by simp [dX, hj5])).n (k := 3) (i := j) (v := E) (by simp [dX, hj5])
      rw [nnP_s q] at hX2
      obtain ⟨c2, lg2, z2, f1, f2, f3⟩ := ih (j + 1) c1 lg1 _ (by omega) hX2 f (by omega)
      refine ⟨c2, lg2, z2, ?_, f2, (e3.trans f3).mono (by omega) (by omega)⟩
      have h07 : nnP n0 nn E j 0 7 = E := by rw [nnP_k (by decide) (by decide)]; exact hE
      rw [jr_f (fun e => by have := (nI_e0 (by omega)).mp e; omega), sO hX.1 _ _ _ _ hj5, jr_bd e1, jZ1]
      rw [← e3.1 0 0 (by decide), ← e3.1 2 j (by decide), ← e3.1 2 g (by decide), ← e3.1 1 0 (by decide), sP4 e2.1 _ _ _ _ _ hj5, xI7 e2.1, u2_k (by decide), e2.2.1 0 7 rfl, h07, sP5 e2.1 _ _ _ _ _ hj5, nI_1]
      exact f1
    · rw [jr_t (by rw [show nn 1 j = 0 by omega]; rfl), nI_1]
      obtain ⟨c2, lg2, z2, f1, f2, f3⟩ := ih (j + 1) c lg z (by omega) (by rw [nnP_n q, loP_n q]; exact hX) f (by omega)
      exact ⟨c2, lg2, z2, f1, f2, f3.mono (by omega) (by omega)⟩
/-- all active servers below j have applied what they may -/
def aps (lo : Nat → List TX) : Nat → NN × (Nat → List ND) × List WT → NN × (Nat → List ND) × List WT
  | 0, q => q
  | j + 1, q => if (aps lo j q).1 2 j = 1 then ((apl j (lo j) (min ((aps lo j q).1 0 9) (lo j).length - (aps lo j q).1 4 j) ((aps lo j q).1 4 j) ((aps lo j q).1, (aps lo j q).2.2)).1, va_up (aps lo j q).2.1 j (rp ((lo j).take (min ((aps lo j q).1 0 9) (lo j).length))), (apl j (lo j) (min ((aps lo j q).1 0 9) (lo j).length - (aps lo j q).1 4 j) ((aps lo j q).1 4 j) ((aps lo j q).1, (aps lo j q).2.2)).2) else aps lo j q
theorem INV_aps (hI : INV N nn lo tr wt) (hN : N < 900) : ∀ j, j ≤ 5 → INV N (aps lo j (nn, tr, wt)).1 lo (aps lo j (nn, tr, wt)).2.1 (aps lo j (nn, tr, wt)).2.2 := by
  intro j
  induction j with
  | zero => intro _; exact hI
  | succ j ih =>
    intro hj
    have h := ih (by omega)
    simp only [aps]
    split
    · next q => exact h.ap (by omega) (by omega) ((h.2.1 j (by omega)).2.2.2.1 q).2
    · exact h
theorem va_comm {α : Type} {f : Nat → α} {i j : Nat} {x y : α} (h : i ≠ j) : va_up (va_up f i x) j y = va_up (va_up f j y) i x := by
  funext q
  by_cases h1 : q = i
  · subst h1; rw [va_s, va_n h, va_s]
  · by_cases h2 : q = j
    · subst h2; rw [va_s, va_n h1, va_s]
    · rw [va_n h2, va_n h1, va_n h1, va_n h2]
theorem x_app_l {g : Nat} {t5 : List ND} {R : NN × (Nat → List ND) × List WT} (hR : aps lo 5 (nn, tr, wt) = R) (w : ZZ) (hI : INV N nn lo tr wt) (hN : N < 900) : ∀ n j (lg : LG) (z : ZZ), j + n = 5 → RX c lg z (aps lo j (nn, tr, wt)).1 lo (va_up (aps lo j (nn, tr, wt)).2.1 5 t5) (aps lo j (nn, tr, wt)).2.2 → ∀ f, n < f → ∃ lg' z', fX7_beginEpoch_101 f (c.1 0 0) (some (c.1 2 g)) (some (c.1 1 0)) (nI 5) (nI j) (qE c lg z w) = (jm_rd (jm_o (some (c.1 0 0)) 8) fun a14 => jm_bd (fX7_proposeLogAgain a14 (some (c.1 2 g))) fun _ => jm_ret ()) (qE c lg' z' w) ∧ RX c lg' z' R.1 lo (va_up R.2.1 5 t5) R.2.2 := by
  intro n
  induction n with
  | zero =>
    intro j lg z hj hX f hf
    obtain ⟨f, rfl⟩ : ∃ k', f = k' + 1 := ⟨f - 1, by omega⟩
    have hj5 : j = 5 := by omega
    subst hj5
    rw [hR] at hX
    refine ⟨lg, z, ?_, hX⟩
    rw [fX7_beginEpoch_101, jr_t (nI_le (by omega) (by omega))]
  | succ n ih =>
    intro j lg z hj hX f hf
    obtain ⟨f, rfl⟩ : ∃ k', f = k' + 1 := ⟨f - 1, by omega⟩
    have hj5 : j < 5 := by omega
    have hIj := INV_aps hI hN j (by omega)
    have e := ih (j + 1)
    simp only [aps] at e
    generalize hq : aps lo j (nn, tr, wt) = q at *
    have h2 := (hIj.2.1 j hj5).2.1
    rw [fX7_beginEpoch_101, jr_f (nI_ge (by omega) (by omega)), xSg hX.1 _ _ _ _ hj5, sI4 hX.1 _ _ _ _ hj5, hX.2.1 2 j (by simp [dX, hj5])]
    by_cases h : q.1 2 j = 1
    · rw [if_pos h] at e
      obtain ⟨a1, a2, a3, a4, a5⟩ := hIj.2.2.2.2.1 j hj5
      have hcm : q.1 0 9 < 2 ^ 31 := by
        obtain ⟨g', q1, -, q3, -⟩ := hIj.2.2.2.2.2.1
        have := hIj.ll g' q1
        omega
      obtain ⟨lg1, z1, f1, f2, -⟩ := x_apply w hX hj5 a1 a2 hcm (by rw [va_n (by omega)]; exact a3) (hIj.CB (by omega)) (by omega)
      rw [va_comm (show 5 ≠ j by omega)] at f2
      obtain ⟨lg2, z2, g1, g2⟩ := e lg1 z1 (by omega) f2 f (by omega)
      refine ⟨lg2, z2, ?_, g2⟩
      rw [jr_f (fun e => by have := (nI_e0 (by omega)).mp e; omega), xI9 hX.1, hX.2.1 0 9 rfl, xR2 hX.1, sO hX.1 _ _ _ _ hj5, jr_bd f1, nI_1]
      exact g1
    · rw [if_neg h] at e
      rw [jr_t (by rw [show q.1 2 j = 0 by omega]; rfl), nI_1]
      exact e lg z (by omega) hX f (by omega)
end EX
