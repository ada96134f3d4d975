/-! ===== the reference's rows ===== -/
section ML
variable {c : CX} {lg : LG} {z w : ZZ} {nn : NN} {wt : List WT}
/-- the rows of tree i, as they lie -/
def MR (w : ZZ) (i : Nat) (r : List ND) : Prop := w 15 i = nI r.length ∧ ∀ j nd, r[j]? = some nd → w 16 (12 * i + j) = nI (p7 nd.1) ∧ w 17 (12 * i + j) = nI nd.2.1 ∧ w 18 (12 * i + j) = nI nd.2.2.1 ∧ w 19 (12 * i + j) = nI nd.2.2.2
def MT (w : ZZ) (i : Nat) (t : List ND) : Prop := ∃ r : List ND, r.Perm t ∧ MR w i r
def ML (w : ZZ) (i : Nat) (l : List TX) : Prop := w 9 i = nI l.length ∧ ∀ j x, l[j]? = some x → w 10 (40 * i + j) = nI x.1 ∧ w 11 (40 * i + j) = nI x.2.1 ∧ w 12 (40 * i + j) = nI (p7 x.2.2.1) ∧ w 13 (40 * i + j) = nI x.2.2.2.1 ∧ w 14 (40 * i + j) = nI x.2.2.2.2
def MV (w : ZZ) (j : Nat) (v : WT) : Prop := w 26 j = nI v.1 ∧ w 27 j = nI v.2.1 ∧ w 28 j = nI (p7 v.2.2)
def MW (w : ZZ) (wt : List WT) : Prop := w 25 0 = nI wt.length ∧ ∀ j v, wt[j]? = some v → MV w j v
def ME (w : ZZ) (nn : NN) : Prop := (∀ k, k < 6 → w 23 k = nI (if k < nn 0 5 then nn 10 k else 0)) ∧ ∀ j, j < 48 → w 24 j = nI (nn 11 j)
/-- what carrying out on tree i leaves -/
def MF (w w' : ZZ) (i : Nat) : Prop := (∀ f, ¬ (15 ≤ f ∧ f ≤ 19) → ¬ (23 ≤ f ∧ f ≤ 28) → w' f = w f) ∧ (∀ j, j ≠ i → w' 15 j = w 15 j) ∧ ∀ f j, 16 ≤ f → f ≤ 19 → ¬ (12 * i ≤ j ∧ j < 12 * i + 12) → w' f j = w f j
theorem MF.rfl {i : Nat} : MF w w i := ⟨fun _ _ _ => _root_.rfl, fun _ _ => _root_.rfl, fun _ _ _ _ _ => _root_.rfl⟩
theorem MF.trans {w w' w'' : ZZ} {i : Nat} (h : MF w w' i) (h' : MF w' w'' i) : MF w w'' i :=
  ⟨fun f a b => (h'.1 f a b).trans (h.1 f a b), fun j a => (h'.2.1 j a).trans (h.2.1 j a), fun f j a b d => (h'.2.2 f j a b d).trans (h.2.2 f j a b d)⟩
theorem MR.fr {w w' : ZZ} {i : Nat} {r : List ND} (h : MR w i r) (hk : ∀ f, 15 ≤ f → f ≤ 19 → w' f = w f) : MR w' i r := by
  refine ⟨by rw [hk 15 (by omega) (by omega)]; exact h.1, fun j nd hj => ?_⟩
  rw [hk 16 (by omega) (by omega), hk 17 (by omega) (by omega), hk 18 (by omega) (by omega), hk 19 (by omega) (by omega)]
  exact h.2 j nd hj
theorem MR.ot {w w' : ZZ} {i i' : Nat} {r : List ND} (h : MR w i' r) (hl : r.length ≤ 12) (hF : MF w w' i) (hi : i' ≠ i) : MR w' i' r := by
  refine ⟨by rw [hF.2.1 _ hi]; exact h.1, fun j nd hj => ?_⟩
  have hj2 := (List.getElem?_eq_some_iff.mp hj).1
  rw [hF.2.2 16 _ (by omega) (by omega) (by omega), hF.2.2 17 _ (by omega) (by omega) (by omega), hF.2.2 18 _ (by omega) (by omega) (by omega), hF.2.2 19 _ (by omega) (by omega) (by omega)]
  exact h.2 j nd hj
theorem MT.ot {w w' : ZZ} {i i' : Nat} {t : List ND} (h : MT w i' t) (hl : t.length ≤ 12) (hF : MF w w' i) (hi : i' ≠ i) : MT w' i' t := by
  obtain ⟨r, h1, h2⟩ := h
  exact ⟨r, h1, h2.ot (by rw [h1.length_eq]; exact hl) hF hi⟩
theorem MT.fr {w w' : ZZ} {i : Nat} {t : List ND} (h : MT w i t) (hk : ∀ f, 15 ≤ f → f ≤ 19 → w' f = w f) : MT w' i t := by
  obtain ⟨r, h1, h2⟩ := h
  exact ⟨r, h1, h2.fr hk⟩
theorem ML.fr {w w' : ZZ} {i : Nat} {l : List TX} (h : ML w i l) (hk : ∀ f, 9 ≤ f → f ≤ 14 → w' f = w f) : ML w' i l := by
  refine ⟨by rw [hk 9 (by omega) (by omega)]; exact h.1, fun j x hj => ?_⟩
  rw [hk 10 (by omega) (by omega), hk 11 (by omega) (by omega), hk 12 (by omega) (by omega), hk 13 (by omega) (by omega), hk 14 (by omega) (by omega)]
  exact h.2 j x hj
theorem MW.fr {w w' : ZZ} (h : MW w wt) (hk : ∀ f, 25 ≤ f → f ≤ 28 → w' f = w f) : MW w' wt := by
  refine ⟨by rw [hk 25 (by omega) (by omega)]; exact h.1, fun j x hj => ?_⟩
  unfold MV
  rw [hk 26 (by omega) (by omega), hk 27 (by omega) (by omega), hk 28 (by omega) (by omega)]
  exact h.2 j x hj
theorem ME.fr {w w' : ZZ} {nn' : NN} (h : ME w nn) (h23 : w' 23 = w 23) (h24 : w' 24 = w 24) (hn : nn' 0 5 = nn 0 5) (hn1 : nn' 10 = nn 10) (hn2 : nn' 11 = nn 11) : ME w' nn' := by
  unfold ME
  rw [h23, h24, hn, hn1, hn2]
  exact h
theorem rem7 {q : Nat} (h : q < 2 ^ 31) : nI q - nI q / 7 * 7 = nI (q % 7) := pk_rem (d := 7) h (by omega) (by omega)
theorem rem8 {q : Nat} (h : q < 2 ^ 31) : nI q - nI q / 8 * 8 = nI (q % 8) := pk_rem (d := 8) h (by omega) (by omega)
theorem nI_e0 {q : Nat} (h : q < 2 ^ 32) : nI q = 0 ↔ q = 0 := nI_inj (b := 0) h (by omega)
theorem m_last_s {q u k : Nat} {S : jm_S} (hq : q < 2401) (hu : 0 < u) (hu2 : u < 2401) : fX8_lastOf_2 (k + 1) (nI q) (nI u) S = if q / u % 7 = 0 then fX8_lastOf_2 k (nI q) (nI (u * 7)) S else some (nI (if q = 0 then 0 else u), S) := by
  rw [fX8_lastOf_2, jr_f (show ¬ (2401 : Int32) ≤ nI u from nI_ge (b := 2401) hu2 (by omega)), jr_f (fun e => by have := (nI_e0 (by omega)).mp e; omega), pk_div (by omega) hu (by omega), rem7 (by have := Nat.div_le_self q u; omega)]
  have hm : q / u % 7 < 7 := Nat.mod_lt _ (by omega)
  by_cases h0 : q / u % 7 = 0
  · rw [if_pos h0, jr_t (by rw [h0]; rfl), show nI u * 7 = nI (u * 7) from pk_mul u 7]
  · rw [if_neg h0, jr_f (fun e => h0 ((nI_e0 (by omega)).mp e))]
    by_cases hq0 : q = 0
    · rw [if_pos hq0, jr_t (by rw [hq0]; rfl)]; rfl
    · rw [if_neg hq0, jr_f (fun e => hq0 ((nI_e0 (by omega)).mp e))]; rfl
theorem m_last_e {q k : Nat} {S : jm_S} (hq : q < 2401) : fX8_lastOf_2 (k + 1) (nI q) (nI 2401) S = some (nI (if q = 0 then 0 else 2401), S) := by
  rw [fX8_lastOf_2, jr_t (show (2401 : Int32) ≤ nI 2401 by decide +kernel)]
  by_cases hq0 : q = 0
  · rw [if_pos hq0, jr_t (by rw [hq0]; rfl)]; rfl
  · rw [if_neg hq0, jr_f (fun e => hq0 ((nI_e0 (by omega)).mp e))]; rfl
def las (q : Nat) : Nat := if q = 0 then 0 else if q % 7 ≠ 0 then 1 else if q / 7 % 7 ≠ 0 then 7 else if q / 49 % 7 ≠ 0 then 49 else 343
theorem m_last {q : Nat} {S : jm_S} (hq : q < 2401) : fX8_lastOf (nI q) S = some (nI (las q), S) := by
  show fX8_lastOf_2 (4091 + 5) (nI q) (nI 1) S = _
  rw [m_last_s hq (by omega) (by omega), Nat.div_one]
  unfold las
  by_cases h1 : q % 7 = 0
  · rw [if_pos h1, m_last_s hq (by omega) (by omega), if_neg (show ¬ (q % 7 ≠ 0) from fun e => e h1)]
    simp only [Nat.one_mul]
    by_cases h2 : q / 7 % 7 = 0
    · rw [if_pos h2, m_last_s hq (by omega) (by omega), if_neg (show ¬ (q / 7 % 7 ≠ 0) from fun e => e h2)]
      simp only [show 7 * 7 = 49 from rfl]
      by_cases h3 : q / 49 % 7 = 0
      · rw [if_pos h3, m_last_s hq (by omega) (by omega), if_neg (show ¬ (q / 49 % 7 ≠ 0) from fun e => e h3)]
        simp only [show 49 * 7 = 343 from rfl]
        by_cases h4 : q / 343 % 7 = 0
        · rw [if_pos h4]
          simp only [show 343 * 7 = 2401 from rfl]
          rw [m_last_e hq, if_pos (by omega), if_pos (by omega)]
        · rw [if_neg h4]
      · rw [if_neg h3, if_pos h3]
    · rw [if_neg h2, if_pos h2]
  · rw [if_neg h1, if_pos h1]
theorem m_parent {q : Nat} {S : jm_S} (hq : q < 2401) : fX8_parentOf (nI q) S = some (nI (par7 q), S) := by
  unfold fX8_parentOf
  rw [jr_bd (m_last hq)]
  by_cases h0 : q = 0
  · subst h0
    rw [jr_t (by decide +kernel)]
    rfl
  · have hl : 0 < las q ∧ las q ≤ 343 := by
      unfold las
      rw [if_neg h0]
      split
      · omega
      · split
        · omega
        · split <;> omega
    rw [jr_f (fun e => by have := (nI_e0 (by omega)).mp e; omega), jr_f (fun e => by have := (nI_e0 (by omega)).mp e; omega), pk_div (by omega) hl.1 (by omega), rem7 (by have := Nat.div_le_self q (las q); omega), pk_mul]
    have hle : q / las q % 7 * las q ≤ q := Nat.le_trans (Nat.mul_le_mul_right _ (Nat.mod_le _ _)) (Nat.div_mul_le_self _ _)
    rw [nI_sub hle]
    have e : q - q / las q % 7 * las q = par7 q := by
      by_cases h1 : q % 7 ≠ 0
      · have l : las q = 1 := by unfold las; rw [if_neg h0, if_pos h1]
        rw [l, Nat.div_one, Nat.mul_one]
        unfold par7
        rw [if_pos h1]
      · by_cases h2 : q / 7 % 7 ≠ 0
        · have l : las q = 7 := by unfold las; rw [if_neg h0, if_neg h1, if_pos h2]
          rw [l]
          unfold par7
          rw [if_neg h1, if_pos h2]
        · by_cases h3 : q / 49 % 7 ≠ 0
          · have l : las q = 49 := by unfold las; rw [if_neg h0, if_neg h1, if_neg h2, if_pos h3]
            rw [l]
            unfold par7
            rw [if_neg h1, if_neg h2, if_pos h3]
          · have l : las q = 343 := by unfold las; rw [if_neg h0, if_neg h1, if_neg h2, if_neg h3]
            rw [l]
            unfold par7
            rw [if_neg h1, if_neg h2, if_neg h3]
            omega
    rw [e]
    rfl
theorem m_find_l {i p : Nat} {r : List ND} (hW : qW c lg) (h : MR w i r) (hi : i < 6) (hl : r.length ≤ 12) (hp : okp p = true) (hr : ∀ nd, nd ∈ r → okp nd.1 = true) : ∀ n j, j + n = r.length → ∀ k, n < k → ∃ v, fX8_find_2 k (c.1 20 0) (nI i) (nI (p7 p)) (nI j) (qE c lg z w) = some (v, qE c lg z w) ∧ ((v = -8 ∧ ∀ m nd, j ≤ m → r[m]? = some nd → nd.1 ≠ p) ∨ ∃ m nd, r[m]? = some nd ∧ nd.1 = p ∧ v = nI (12 * i + m)) := by
  intro n
  induction n with
  | zero =>
    intro j hj k hk
    obtain ⟨k, rfl⟩ : ∃ k', k = k' + 1 := ⟨k - 1, by omega⟩
    refine ⟨-8, ?_, Or.inl ⟨rfl, fun m nd h1 h2 => ?_⟩⟩
    · rw [fX8_find_2, mR15 hW, mG15 hW _ _ _ _ hi, h.1, jr_t (nI_le (by omega) (by omega))]
      rfl
    · have := (List.getElem?_eq_some_iff.mp h2).1
      omega
  | succ n ih =>
    intro j hj k hk
    obtain ⟨k, rfl⟩ : ∃ k', k = k' + 1 := ⟨k - 1, by omega⟩
    have hjl : j < r.length := by omega
    have hg : r[j]? = some r[j] := List.getElem?_eq_getElem hjl
    have hok := hr r[j] (List.getElem_mem hjl)
    have b1 := (ok_all hok).2.1
    have b2 := (ok_all hp).2.1
    rw [fX8_find_2, mR15 hW, mG15 hW _ _ _ _ hi, h.1, jr_f (nI_ge (by omega) (by omega)), mR16 hW, n12, nI_add, mG16 hW _ _ _ _ (by omega), (h.2 j _ hg).1]
    by_cases e : r[j].1 = p
    · rw [jr_t (by rw [e])]
      exact ⟨_, rfl, Or.inr ⟨j, _, hg, e, rfl⟩⟩
    · rw [jr_f (fun q => e ((p7_inj hok hp).mp ((nI_eq (by omega) (by omega)).mp q))), nI_1]
      obtain ⟨v, e1, e2⟩ := ih (j + 1) (by omega) k (by omega)
      refine ⟨v, e1, ?_⟩
      rcases e2 with ⟨e2, e3⟩ | e2
      · refine Or.inl ⟨e2, fun m nd h1 h2 => ?_⟩
        by_cases hm : m = j
        · subst hm
          rw [hg] at h2
          cases h2
          exact e
        · exact e3 m nd (by omega) h2
      · exact Or.inr e2
theorem m_find {i p : Nat} {r : List ND} (hW : qW c lg) (h : MR w i r) (hi : i < 6) (hl : r.length ≤ 12) (hp : okp p = true) (hr : ∀ nd, nd ∈ r → okp nd.1 = true) : ∃ v, fX8_find (c.1 20 0) (nI i) (nI (p7 p)) (qE c lg z w) = some (v, qE c lg z w) ∧ ((v = -8 ∧ ∀ nd, nd ∈ r → nd.1 ≠ p) ∨ ∃ m nd, r[m]? = some nd ∧ nd.1 = p ∧ v = nI (12 * i + m)) := by
  obtain ⟨v, e1, e2⟩ := m_find_l (z := z) hW h hi hl hp hr r.length 0 (by omega) 4096 (by omega)
  refine ⟨v, e1, ?_⟩
  rcases e2 with ⟨e2, e3⟩ | e2
  · refine Or.inl ⟨e2, fun nd hn => ?_⟩
    obtain ⟨m, hm⟩ := List.getElem?_of_mem hn
    exact e3 m nd (by omega) hm
  · exact Or.inr e2
theorem m_child_l {i p : Nat} {r : List ND} (hW : qW c lg) (h : MR w i r) (hi : i < 6) (hl : r.length ≤ 12) (hp : okp p = true) (hr : ∀ nd, nd ∈ r → okp nd.1 = true) : ∀ n j a, j + n = r.length → ∀ k, n < k → fX8_children_5 k (c.1 20 0) (nI i) (nI (p7 p)) (nI a) (nI j) (qE c lg z w) = some (nI (a + (r.drop j).countP (fun nd => nd.1 / 8 == p)), qE c lg z w) := by
  intro n
  induction n with
  | zero =>
    intro j a hj k hk
    obtain ⟨k, rfl⟩ : ∃ k', k = k' + 1 := ⟨k - 1, by omega⟩
    rw [fX8_children_5, mR15 hW, mG15 hW _ _ _ _ hi, h.1, jr_t (nI_le (by omega) (by omega)), List.drop_eq_nil_of_le (by omega)]
    rfl
  | succ n ih =>
    intro j a hj k hk
    obtain ⟨k, rfl⟩ : ∃ k', k = k' + 1 := ⟨k - 1, by omega⟩
    have hjl : j < r.length := by omega
    have hg : r[j]? = some r[j] := List.getElem?_eq_getElem hjl
    have hok := hr r[j] (List.getElem_mem hjl)
    obtain ⟨-, b1, -, b3, b4, -⟩ := ok_all hok
    have b2 := (ok_all hp).2.1
    have b5 := (ok_all b4).2.1
    rw [fX8_children_5, mR15 hW, mG15 hW _ _ _ _ hi, h.1, jr_f (nI_ge (by omega) (by omega)), mR16 hW, n12, nI_add, mG16 hW _ _ _ _ (by omega), (h.2 j _ hg).1, jr_bd (m_parent b1), b3, List.drop_eq_getElem_cons hjl, List.countP_cons]
    by_cases e : r[j].1 / 8 = p
    · rw [jr_t (by rw [e]), nI_1, nI_1, ih (j + 1) (a + 1) (by omega) k (by omega), if_pos (by simp [e])]
      congr 3
      omega
    · rw [jr_f (fun q => e ((p7_inj b4 hp).mp ((nI_eq (by omega) (by omega)).mp q))), nI_1, show nI a + 0 = nI a from by rw [show (0 : Int32) = nI 0 from rfl, nI_add, Nat.add_zero], ih (j + 1) a (by omega) k (by omega), if_neg (by simp [e])]
      rfl
theorem m_child {i p : Nat} {t : List ND} (hW : qW c lg) (h : MT w i t) (hi : i < 6) (ht : TV t) (hp : okp p = true) : fX8_children (c.1 20 0) (nI i) (nI (p7 p)) (qE c lg z w) = some (nI (t.countP (fun nd => nd.1 / 8 == p)), qE c lg z w) := by
  obtain ⟨r, h1, h2⟩ := h
  have e := m_child_l (z := z) hW h2 hi (by rw [h1.length_eq]; exact ht.2.2) hp (fun nd hn => (ht.2.1 nd (h1.mem_iff.mp hn)).1) r.length 0 0 (by omega) 4096 (by have := h1.length_eq; have := ht.2.2; omega)
  rw [List.drop_zero, Nat.zero_add, h1.countP_eq] at e
  exact e
/-- the last of a row takes the place of one that goes -/
theorem swap_out {r : List ND} {j : Nat} {nd : ND} (h : r[j]? = some nd) : ∃ r' : List ND, r.Perm (nd :: r') ∧ r'.length = r.length - 1 ∧ ∀ q, q < r.length - 1 → r'[q]? = if q = j then r[r.length - 1]? else r[q]? := by
  obtain ⟨hj, he⟩ := List.getElem?_eq_some_iff.mp h
  have hr : r = r.take j ++ nd :: r.drop (j + 1) := by
    rw [← he, ← List.drop_eq_getElem_cons hj, List.take_append_drop]
  have hA : (r.take j).length = j := by rw [List.length_take]; omega
  generalize r.take j = A at hr hA
  generalize r.drop (j + 1) = B at hr
  subst hr
  by_cases hB : B = []
  · subst hB
    refine ⟨A, List.perm_append_singleton _ _, by simp, fun q hq => ?_⟩
    have hq2 : q < A.length := by simpa using hq
    rw [if_neg (by omega), List.getElem?_append_left hq2]
  · obtain ⟨C, y, rfl⟩ : ∃ C y, B = C ++ [y] := ⟨B.dropLast, B.getLast hB, (List.dropLast_concat_getLast _).symm⟩
    refine ⟨A ++ y :: C, ?_, by simp, fun q hq => ?_⟩
    · refine List.perm_middle.trans (List.Perm.cons nd ?_)
      refine List.Perm.append_left A ?_
      exact List.perm_append_singleton _ _
    · have hl : (A ++ nd :: (C ++ [y])).length = A.length + C.length + 2 := by simp; omega
      rw [hl] at hq ⊢
      by_cases e : q = j
      · rw [if_pos e, List.getElem?_append_right (by omega), List.getElem?_append_right (by omega), show q - A.length = 0 by omega, show A.length + C.length + 2 - 1 - A.length = C.length + 1 by omega, List.getElem?_cons_succ, List.getElem?_append_right (by omega)]
        simp
      · rw [if_neg e]
        by_cases e2 : q < A.length
        · rw [List.getElem?_append_left e2, List.getElem?_append_left e2]
        · rw [List.getElem?_append_right (by omega), List.getElem?_append_right (by omega)]
          obtain ⟨d, hd⟩ : ∃ d, q - A.length = d + 1 := ⟨q - A.length - 1, by omega⟩
          rw [hd, List.getElem?_cons_succ, List.getElem?_cons_succ, List.getElem?_append_left (by omega)]
theorem m_removes {i j : Nat} {r : List ND} {nd : ND} (hW : qW c lg) (h : MR w i r) (hi : i < 6) (hl : r.length ≤ 12) (hj : r[j]? = some nd) : ∃ w' r', fX8_removes (c.1 20 0) (nI i) (nI (12 * i + j)) (qE c lg z w) = some ((), qE c lg z w') ∧ MR w' i r' ∧ r.Perm (nd :: r') ∧ MF w w' i ∧ ∀ f, 20 ≤ f → w' f = w f := by
  obtain ⟨hjl, -⟩ := List.getElem?_eq_some_iff.mp hj
  obtain ⟨r', p1, p2, p3⟩ := swap_out hj
  have h15 := h.1
  have hs1 : nI r.length - 1 = nI (r.length - 1) := nI_sub1 (by omega)
  refine ⟨u2 (u2 (u2 (u2 (u2 w 15 i (nI (r.length - 1))) 16 (12 * i + j) (w 16 (12 * i + (r.length - 1)))) 17 (12 * i + j) (w 17 (12 * i + (r.length - 1)))) 18 (12 * i + j) (w 18 (12 * i + (r.length - 1)))) 19 (12 * i + j) (w 19 (12 * i + (r.length - 1))), r', ?_, ?_, p1, ?_, fun f hf => by rw [u2_k (by omega), u2_k (by omega), u2_k (by omega), u2_k (by omega), u2_k (by omega)]⟩
  · unfold fX8_removes
    simp (disch := omega) only [↓mR15 hW, ↓mG15 hW, ↓mS15 hW, ↓mR16 hW, ↓mG16 hW, ↓mS16 hW, ↓mR17 hW, ↓mG17 hW, ↓mS17 hW, ↓mR18 hW, ↓mG18 hW, ↓mS18 hW, ↓mR19 hW, ↓mG19 hW, ↓mS19 hW, ↓mO hW, ↓jZ0, ↓jZ1, ↓jRt, nI_add, nI_1, n7, n8, n10, n12, n40, h15, hs1, u2_k, u2_s]
  · refine ⟨by rw [u2_k (by decide), u2_k (by decide), u2_k (by decide), u2_k (by decide), u2_s, p2], fun q nd' hq => ?_⟩
    have hql := (List.getElem?_eq_some_iff.mp hq).1
    rw [p3 q (by omega)] at hq
    by_cases e : q = j
    · subst e
      rw [if_pos rfl] at hq
      have := h.2 _ _ hq
      simp only [u2_k (show (16 : Nat) ≠ 19 by decide), u2_k (show (16 : Nat) ≠ 18 by decide), u2_k (show (16 : Nat) ≠ 17 by decide), u2_k (show (17 : Nat) ≠ 19 by decide), u2_k (show (17 : Nat) ≠ 18 by decide), u2_k (show (18 : Nat) ≠ 19 by decide), u2_s]
      exact this
    · rw [if_neg e] at hq
      have := h.2 _ _ hq
      have hne : 12 * i + q ≠ 12 * i + j := by omega
      simp only [u2_k (show (16 : Nat) ≠ 19 by decide), u2_k (show (16 : Nat) ≠ 18 by decide), u2_k (show (16 : Nat) ≠ 17 by decide), u2_k (show (16 : Nat) ≠ 15 by decide), u2_k (show (17 : Nat) ≠ 19 by decide), u2_k (show (17 : Nat) ≠ 18 by decide), u2_k (show (17 : Nat) ≠ 16 by decide), u2_k (show (17 : Nat) ≠ 15 by decide), u2_k (show (18 : Nat) ≠ 19 by decide), u2_k (show (18 : Nat) ≠ 17 by decide), u2_k (show (18 : Nat) ≠ 16 by decide), u2_k (show (18 : Nat) ≠ 15 by decide), u2_k (show (19 : Nat) ≠ 18 by decide), u2_k (show (19 : Nat) ≠ 17 by decide), u2_k (show (19 : Nat) ≠ 16 by decide), u2_k (show (19 : Nat) ≠ 15 by decide), u2_i hne]
      exact this
  · refine ⟨fun f h1 h2 => by rw [u2_k (by omega), u2_k (by omega), u2_k (by omega), u2_k (by omega), u2_k (by omega)], fun q hq => ?_, fun f q h1 h2 h3 => ?_⟩
    · rw [u2_k (by decide), u2_k (by decide), u2_k (by decide), u2_k (by decide), u2_i hq]
    · have hne : q ≠ 12 * i + j := by omega
      have e : ∀ (w : ZZ) (k : Nat) (x : Int32), u2 w k (12 * i + j) x f q = w f q := fun w k x => by simp [u2, hne]
      rw [e, e, e, e, u2_k (by omega)]
theorem m_fires_l {s p id kd len : Nat} (hW : qW c lg) (hs : s ≤ 5) (hp : okp p = true) (hlen : wt.length = len) (hl10 : len ≤ 10) : ∀ n j (L : List WT) (w : ZZ) (nn : NN), j + n = len → L.length ≤ j → w 25 0 = nI len → (∀ q v, L[q]? = some v → MV w q v) → (∀ q v, j ≤ q → wt[q]? = some v → MV w q v) → ME w nn → WV nn wt → (∀ k, k < 6 → nn 10 k + n < 2 ^ 31) → ∀ k, n < k → ∃ w', fX8_fires_6 k (c.1 20 0) (nI s) (nI (p7 p)) (nI id) (nI kd) (nI L.length) (nI j) (qE c lg z w) = some ((), qE c lg z w') ∧ MW w' (L ++ wf s p (wt.drop j)) ∧ ME w' (fe s p (10 * id + kd) (wt.drop j) nn) ∧ ∀ f, ¬ (23 ≤ f ∧ f ≤ 28) → w' f = w f := by
  intro n
  induction n with
  | zero =>
    intro j L w nn hj hL h25 hLv hwv hE hV hb k hk
    obtain ⟨k, rfl⟩ : ∃ k', k = k' + 1 := ⟨k - 1, by omega⟩
    refine ⟨u2 w 25 0 (nI L.length), ?_, ?_, ?_, fun f hf => u2_k (by omega)⟩
    · rw [fX8_fires_6, mI25 hW, h25, jr_t (nI_le (by omega) (by omega)), mP25 hW]
      rfl
    · rw [List.drop_eq_nil_of_le (by omega)]
      refine ⟨by rw [u2_s]; simp [wf], fun q v hq => ?_⟩
      unfold MV
      rw [u2_k (by decide), u2_k (by decide), u2_k (by decide)]
      exact hLv q v (by simpa [wf] using hq)
    · rw [List.drop_eq_nil_of_le (by omega)]
      exact hE.fr (u2_k (by decide)) (u2_k (by decide)) rfl rfl rfl
  | succ n ih =>
    intro j L w nn hj hL h25 hLv hwv hE hV hb k hk
    obtain ⟨k, rfl⟩ : ∃ k', k = k' + 1 := ⟨k - 1, by omega⟩
    have hjl : j < wt.length := by omega
    have hg : wt[j]? = some wt[j] := List.getElem?_eq_getElem hjl
    obtain ⟨v1, v2, v3, v4⟩ := hV.2 wt[j] (List.getElem_mem hjl)
    obtain ⟨m1, m2, m3⟩ := hwv j _ (Nat.le_refl _) hg
    have b1 := (ok_all v4).2.1
    have b2 := (ok_all hp).2.1
    rw [fX8_fires_6, mI25 hW, h25, jr_f (nI_ge (by omega) (by omega)), mR26 hW, mG26 hW _ _ _ _ (by omega), m1, List.drop_eq_getElem_cons hjl]
    -- one that stays
    have stay : ¬ (wt[j].1 = s ∧ wt[j].2.2 = p) → ∃ w', fX8_fires_88 (fun h0 x1 x2 x3 x4 x5 x6 => fX8_fires_6 k h0 x1 x2 x3 x4 x5 x6) (c.1 20 0) (nI s) (nI (p7 p)) (nI id) (nI kd) (nI L.length) (nI j) (qE c lg z w) = some ((), qE c lg z w') ∧ MW w' (L ++ wf s p (wt[j] :: wt.drop (j + 1))) ∧ ME w' (fe s p (10 * id + kd) (wt[j] :: wt.drop (j + 1)) nn) ∧ ∀ f, ¬ (23 ≤ f ∧ f ≤ 28) → w' f = w f := by
      intro hm
      have hkeep : ∀ q v, q ≠ L.length → MV w q v → MV (u2 (u2 (u2 w 26 L.length (nI wt[j].1)) 27 L.length (nI wt[j].2.1)) 28 L.length (nI (p7 wt[j].2.2))) q v := by
        intro q v hq hv
        have e : ∀ (w : ZZ) (k f : Nat) (x : Int32), u2 w k L.length x f q = w f q := fun w k f x => by simp [u2, hq]
        unfold MV
        rw [e, e, e, e, e, e, e, e, e]
        exact hv
      obtain ⟨w', e1, e2, e3, e4⟩ := ih (j + 1) (L ++ [wt[j]]) (u2 (u2 (u2 w 26 L.length (nI wt[j].1)) 27 L.length (nI wt[j].2.1)) 28 L.length (nI (p7 wt[j].2.2))) nn (by omega) (by rw [List.length_append]; simp; omega) (by rw [u2_k (by decide), u2_k (by decide), u2_k (by decide)]; exact h25) (fun q v hq => by
          by_cases hq1 : q < L.length
          · rw [List.getElem?_append_left hq1] at hq
            exact hkeep q v (by omega) (hLv q v hq)
          · have hq2 := (List.getElem?_eq_some_iff.mp hq).1
            rw [List.length_append] at hq2
            have hq3 : q = L.length := by simp at hq2; omega
            subst hq3
            simp at hq
            subst hq
            unfold MV
            rw [u2_k (show (26 : Nat) ≠ 28 by decide), u2_k (show (26 : Nat) ≠ 27 by decide), u2_s, u2_k (show (27 : Nat) ≠ 28 by decide), u2_s, u2_s]
            exact ⟨rfl, rfl, rfl⟩) (fun q v hq1 hq2 => hkeep q v (by omega) (hwv q v (by omega) hq2)) (hE.fr (by rw [u2_k (by decide), u2_k (by decide), u2_k (by decide)]) (by rw [u2_k (by decide), u2_k (by decide), u2_k (by decide)]) rfl rfl rfl) hV (fun k hk => by have := hb k hk; omega) k (by omega)
      refine ⟨w', ?_, ?_, ?_, fun f hf => by rw [e4 f hf, u2_k (by omega), u2_k (by omega), u2_k (by omega)]⟩
      · unfold fX8_fires_88
        simp (disch := omega) only [↓mR26 hW, ↓mG26 hW, ↓mS26 hW, ↓mR27 hW, ↓mG27 hW, ↓mS27 hW, ↓mR28 hW, ↓mG28 hW, ↓mS28 hW, ↓mO hW, ↓jZ0, ↓jZ1, ↓jRt, nI_add, nI_1, n7, n8, n10, n12, n40, m1, m2, m3, u2_k]
        rw [List.length_append] at e1
        exact e1
      · have e5 : wf s p (wt[j] :: wt.drop (j + 1)) = wt[j] :: wf s p (wt.drop (j + 1)) := by
          have : (!(wt[j].1 == s && wt[j].2.2 == p)) = true := by
            simp only [Bool.not_eq_true', Bool.and_eq_false_iff, beq_eq_false_iff_ne]
            by_cases q : wt[j].1 = s
            · exact Or.inr (fun q2 => hm ⟨q, q2⟩)
            · exact Or.inl q
          exact List.filter_cons_of_pos (p := fun v : WT => !(v.1 == s && v.2.2 == p)) this
        rw [e5]
        simpa using e2
      · have e5 : fe s p (10 * id + kd) (wt[j] :: wt.drop (j + 1)) nn = fe s p (10 * id + kd) (wt.drop (j + 1)) nn := by
          simp only [fe]
          rw [if_neg hm]
        rw [e5]
        exact e3
    by_cases h1 : wt[j].1 = s
    · rw [jr_t (by rw [h1]), mR28 hW, mG28 hW _ _ _ _ (by omega), m3]
      by_cases h2 : wt[j].2.2 = p
      · have hses : wt[j].2.1 < 6 := by omega
        have e23 := hE.1 wt[j].2.1 hses
        rw [if_pos v2] at e23
        have hbb := hb wt[j].2.1 hses
        rw [jr_t (by rw [h2]), mR27 hW, mG27 hW _ _ _ _ (by omega), m2, mR24 hW, mR23 hW, mG23 hW _ _ _ _ hses, e23, rem8 (by omega), n8, nI_add, n10, nI_add, mS24 hW _ _ _ _ _ (by omega), mR23 hW, mG23 hW _ _ _ _ hses, u2_k (by decide), e23, nI_1, mS23 hW _ _ _ _ _ hses, nI_1]
        have hkeep : ∀ q v, MV w q v → MV (u2 (u2 w 24 (8 * wt[j].2.1 + nn 10 wt[j].2.1 % 8) (nI (10 * id + kd))) 23 wt[j].2.1 (nI (nn 10 wt[j].2.1 + 1))) q v := by
          intro q v hv
          unfold MV
          rw [u2_k (by decide), u2_k (by decide), u2_k (by decide), u2_k (by decide), u2_k (by decide), u2_k (by decide)]
          exact hv
        obtain ⟨w', e1, e2, e3, e4⟩ := ih (j + 1) L (u2 (u2 w 24 (8 * wt[j].2.1 + nn 10 wt[j].2.1 % 8) (nI (10 * id + kd))) 23 wt[j].2.1 (nI (nn 10 wt[j].2.1 + 1))) (n2 (n2 nn 11 (8 * wt[j].2.1 + nn 10 wt[j].2.1 % 8) (10 * id + kd)) 10 wt[j].2.1 (nn 10 wt[j].2.1 + 1)) (by omega) (by omega) (by rw [u2_k (by decide), u2_k (by decide)]; exact h25) (fun q v hq => hkeep q v (hLv q v hq)) (fun q v hq1 hq2 => hkeep q v (hwv q v (by omega) hq2)) (by
            refine ⟨fun k hk => ?_, fun q hq => ?_⟩
            · rw [n2_k (show (0 : Nat) ≠ 10 by decide), n2_k (show (0 : Nat) ≠ 11 by decide)]
              by_cases e : k = wt[j].2.1
              · subst e
                rw [u2_s, n2_s, if_pos v2]
              · rw [u2_i e, n2_i e, u2_k (by decide), n2_k (by decide)]
                exact hE.1 k hk
            · rw [u2_k (by decide), n2_k (by decide)]
              by_cases e : q = 8 * wt[j].2.1 + nn 10 wt[j].2.1 % 8
              · rw [e, u2_s, n2_s]
              · rw [u2_i e, n2_i e]
                exact hE.2 q hq) (by
            unfold WV
            rw [n2_k (show (0 : Nat) ≠ 10 by decide), n2_k (show (0 : Nat) ≠ 11 by decide)]
            exact hV) (fun k hk => by
            have := hb k hk
            by_cases e : k = wt[j].2.1
            · subst e
              rw [n2_s]
              omega
            · rw [n2_i e, n2_k (by decide)]
              omega) k (by omega)
        refine ⟨w', e1, ?_, ?_, fun f hf => by rw [e4 f hf, u2_k (by omega), u2_k (by omega)]⟩
        · have e5 : wf s p (wt[j] :: wt.drop (j + 1)) = wf s p (wt.drop (j + 1)) := List.filter_cons_of_neg (p := fun v : WT => !(v.1 == s && v.2.2 == p)) (by simp [h1, h2])
          rw [e5]
          exact e2
        · simp only [fe]
          rw [if_pos ⟨h1, h2⟩]
          exact e3
      · rw [jr_f (fun q => h2 ((p7_inj v4 hp).mp ((nI_eq (by omega) (by omega)).mp q)))]
        exact stay (fun q => h2 q.2)
    · rw [jr_f (fun q => h1 ((nI_eq (by omega) (by omega)).mp q))]
      exact stay (fun q => h1 q.1)
theorem m_fires {s p id kd : Nat} (hW : qW c lg) (hs : s ≤ 5) (hp : okp p = true) (h : MW w wt) (hE : ME w nn) (hb : CB nn wt) : ∃ w', fX8_fires (c.1 20 0) (nI s) (nI (p7 p)) (nI id) (nI kd) (qE c lg z w) = some ((), qE c lg z w') ∧ MW w' (wf s p wt) ∧ ME w' (fe s p (10 * id + kd) wt nn) ∧ ∀ f, ¬ (23 ≤ f ∧ f ≤ 28) → w' f = w f := by
  have hl := hb.1.1
  obtain ⟨w', e1, e2, e3, e4⟩ := m_fires_l (z := z) (id := id) (kd := kd) hW hs hp rfl hl wt.length 0 [] w nn (by omega) (by simp) h.1 (fun q v hq => by simp at hq) (fun q v _ hq => h.2 q v hq) hE hb.1 (fun k hk => by have := hb.2 k hk; omega) 4096 (by omega)
  rw [List.drop_zero] at e2 e3
  exact ⟨w', e1, by simpa using e2, e3, e4⟩
end ML
