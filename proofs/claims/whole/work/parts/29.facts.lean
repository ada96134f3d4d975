/-! ===== replaying, applying, common beginnings ===== -/
theorem rp_nil : rp [] = [] := rfl
theorem rp_snoc (l : List TX) (x : TX) : rp (l ++ [x]) = ct x (rp l) := by simp [rp, List.foldl_append]
theorem take_s {l : List TX} {j : Nat} {x : TX} (h : l[j]? = some x) : l.take (j + 1) = l.take j ++ [x] := by
  rw [List.take_add_one, h]
  rfl
theorem rp_take {l : List TX} {j : Nat} {x : TX} (h : l[j]? = some x) : rp (l.take (j + 1)) = ct x (rp (l.take j)) := by rw [take_s h, rp_snoc]
theorem TV.nil : TV [] := ⟨List.nodup_nil, fun nd h => by simp at h, by simp⟩
theorem TV.ct {x : TX} {t : List ND} (h : TV t) (hv : tv x t) : TV (ct x t) := by
  obtain ⟨id, kind, p, d, o⟩ := x
  obtain ⟨v1, v2, v3, v4, v5, v6, v7⟩ := hv
  simp only at v1 v2 v3 v4 v5 v6 v7
  match kind, v4 with
  | 0, _ =>
    obtain ⟨q1, q2, q3⟩ := v5 rfl
    refine ⟨?_, fun nd hn => ?_, by show (_ :: t).length ≤ 12; rw [List.length_cons]; omega⟩
    · show (List.map _ ((p, d, 0, o) :: t)).Nodup
      rw [List.map_cons, List.nodup_cons]
      refine ⟨fun hm => ?_, h.1⟩
      obtain ⟨nd, n1, n2⟩ := List.mem_map.mp hm
      exact q3 nd n1 n2
    · rcases List.mem_cons.mp hn with e | e
      · subst e
        exact ⟨v2, q2, v3⟩
      · exact h.2.1 nd e
  | 1, _ =>
    have e : (List.map (fun nd : ND => if nd.1 = p then (nd.1, d, nd.2.2.1 + 1, nd.2.2.2) else nd) t).map (·.1) = t.map (·.1) := by
      rw [List.map_map]
      apply List.map_congr_left
      intro a _
      simp only [Function.comp]
      split <;> rfl
    refine ⟨?_, fun nd hn => ?_, by show (List.map _ t).length ≤ 12; rw [List.length_map]; exact h.2.2⟩
    · show ((List.map (fun nd : ND => if nd.1 = p then (nd.1, d, nd.2.2.1 + 1, nd.2.2.2) else nd) t).map (·.1)).Nodup
      rw [e]
      exact h.1
    · obtain ⟨a, a1, a2⟩ := List.mem_map.mp hn
      have := h.2.1 a a1
      split at a2 <;> (subst a2; exact this)
  | 2, _ => exact h.wo
  | 3, _ => exact ⟨h.1.sublist (List.filter_sublist.map _), fun nd hn => h.2.1 nd (List.mem_filter.mp hn).1, Nat.le_trans (List.length_filter_le _ _) h.2.2⟩
theorem ct_ver {x : TX} {t : List ND} {N : Nat} (h : ∀ nd, nd ∈ t → nd.2.2.1 ≤ N) : ∀ nd, nd ∈ ct x t → nd.2.2.1 ≤ N + 1 := by
  obtain ⟨id, kind, p, d, o⟩ := x
  intro nd hn
  unfold ct at hn
  simp only at hn
  split at hn
  · rcases List.mem_cons.mp hn with e | e
    · subst e; simp
    · have := h nd e; omega
  · obtain ⟨a, a1, a2⟩ := List.mem_map.mp hn
    have := h a a1
    split at a2
    · subst a2; simp only; omega
    · subst a2; omega
  · have := h nd (List.mem_filter.mp hn).1; omega
  · have := h nd (List.mem_filter.mp hn).1; omega
theorem rp_ver {l : List TX} : ∀ k, ∀ nd, nd ∈ rp (l.take k) → nd.2.2.1 ≤ k := by
  intro k
  induction k with
  | zero => intro nd h; simp [rp] at h
  | succ k ih =>
    cases hx : l[k]? with
    | none =>
      rw [List.take_of_length_le (by have := List.getElem?_eq_none_iff.mp hx; omega)]
      rw [List.take_of_length_le (by have := List.getElem?_eq_none_iff.mp hx; omega)] at ih
      exact fun nd hn => Nat.le_succ_of_le (ih nd hn)
    | some x =>
      rw [rp_take hx]
      exact ct_ver ih
theorem rp_TV {l : List TX} (h : RV l) : ∀ k, TV (rp (l.take k)) := by
  intro k
  induction k with
  | zero => exact TV.nil
  | succ k ih =>
    cases hx : l[k]? with
    | none =>
      rw [List.take_of_length_le (by have := List.getElem?_eq_none_iff.mp hx; omega)]
      rw [List.take_of_length_le (by have := List.getElem?_eq_none_iff.mp hx; omega)] at ih
      exact ih
    | some x =>
      rw [rp_take hx]
      exact ih.ct (h k x hx)
theorem RV.pre {l : List TX} (h : RV l) (n : Nat) : RV (l.take n) := by
  intro k x hk
  rw [List.getElem?_take] at hk
  split at hk
  · rw [List.take_take, Nat.min_eq_left (by omega)]
    exact h k x hk
  · cases hk
theorem RV.snoc {l : List TX} {x : TX} (h : RV l) (hx : tv x (rp l)) : RV (l ++ [x]) := by
  intro k y hk
  by_cases hlt : k < l.length
  · rw [List.getElem?_append_left hlt] at hk
    rw [List.take_append_of_le_length (by omega)]
    exact h k y hk
  · rw [List.getElem?_append_right (by omega)] at hk
    by_cases he : k = l.length
    · subst he
      simp at hk
      subst hk
      rw [List.take_left']
      · exact hx
      · rfl
    · rw [List.getElem?_eq_none (by simp; omega)] at hk
      cases hk
theorem RV.nil : RV [] := fun k x h => by simp at h
theorem CB.fes {s x : Nat} : ∀ (l : List Nat) {q : NN × List WT}, CB q.1 q.2 → CB (fes s x l q).1 (fes s x l q).2 := by
  intro l
  induction l with
  | nil => exact fun h => h
  | cons p l ih => exact fun h => ih (q := (_, _)) h.fe
theorem CB.cy {s : Nat} {x : TX} {t : List ND} {q : NN × List WT} (h : CB q.1 q.2) : CB (cy s x t q).1 (cy s x t q).2 := CB.fes _ h
theorem CB.n {nn : NN} {wt : List WT} {k i v : Nat} (h : CB nn wt) (h1 : k ≠ 10) (h2 : ¬ (k = 0 ∧ i = 5)) : CB (n2 nn k i v) wt := by
  have e : n2 nn k i v 0 5 = nn 0 5 := by
    unfold n2
    rw [if_neg (fun q => h2 ⟨q.1.symm, q.2.symm⟩)]
  unfold CB WV
  rw [e, n2_k (Ne.symm h1)]
  exact h
theorem fes_k {s x : Nat} : ∀ (l : List Nat) (q : NN × List WT) (k i : Nat), k ≠ 10 → k ≠ 11 → (fes s x l q).1 k i = q.1 k i := by
  intro l
  induction l with
  | nil => intros; rfl
  | cons p l ih => exact fun q k i h1 h2 => (ih _ k i h1 h2).trans (fe_05 _ _ _ _ h1 h2)
theorem cy_k {s : Nat} {x : TX} {t : List ND} {q : NN × List WT} {k i : Nat} (h1 : k ≠ 10) (h2 : k ≠ 11) : (cy s x t q).1 k i = q.1 k i := fes_k _ _ _ _ h1 h2
/-- nobody watches the proposed tree -/
theorem fe_5 {p x : Nat} : ∀ {m : List WT} {nn : NN}, (∀ v, v ∈ m → v.1 < 5) → fe 5 p x m nn = nn := by
  intro m
  induction m with
  | nil => intros; rfl
  | cons v m ih =>
    intro nn h
    simp only [fe]
    have := h v (by simp)
    rw [if_neg (by omega)]
    exact ih (fun u hu => h u (by simp [hu]))
theorem wf_5 {p : Nat} {m : List WT} (h : ∀ v, v ∈ m → v.1 < 5) : wf 5 p m = m := by
  unfold wf
  rw [List.filter_eq_self]
  intro v hv
  have := h v hv
  have e : (v.1 == 5) = false := by simp; omega
  simp [e]
theorem fes_5 {x : Nat} : ∀ (l : List Nat) {q : NN × List WT}, (∀ v, v ∈ q.2 → v.1 < 5) → fes 5 x l q = q := by
  intro l
  induction l with
  | nil => intros; rfl
  | cons p l ih =>
    intro q h
    simp only [fes]
    rw [fe_5 h, wf_5 h]
    exact ih h
theorem cy_5 {x : TX} {t : List ND} {q : NN × List WT} (h : ∀ v, v ∈ q.2 → v.1 < 5) : cy 5 x t q = q := fes_5 _ h
/-- a server applies n transactions of its log l, the first at place j -/
def apl (s : Nat) (l : List TX) : Nat → Nat → NN × List WT → NN × List WT
  | 0, _, q => q
  | n + 1, j, q => match l[j]? with
    | none => q
    | some x => apl s l n (j + 1) (n2 (cy s x (rp (l.take j)) q).1 4 s (j + 1), (cy s x (rp (l.take j)) q).2)
theorem CB_apl {s : Nat} {l : List TX} : ∀ n j {q : NN × List WT}, CB q.1 q.2 → CB (apl s l n j q).1 (apl s l n j q).2 := by
  intro n
  induction n with
  | zero => exact fun _ _ h => h
  | succ n ih =>
    intro j q h
    simp only [apl]
    cases l[j]? with
    | none => exact h
    | some x => exact ih (j + 1) (q := (_, _)) (h.cy.n (by decide) (by simp))
theorem apl_k {s : Nat} {l : List TX} : ∀ n j (q : NN × List WT) (k i : Nat), k ≠ 10 → k ≠ 11 → ¬ (k = 4 ∧ i = s) → (apl s l n j q).1 k i = q.1 k i := by
  intro n
  induction n with
  | zero => intros; rfl
  | succ n ih =>
    intro j q k i h1 h2 h3
    simp only [apl]
    cases l[j]? with
    | none => rfl
    | some x =>
      simp only
      rw [ih _ _ _ _ h1 h2 h3]
      simp only
      by_cases e : k = 4
      · subst e
        rw [n2_i (fun q => h3 ⟨rfl, q⟩), cy_k h1 h2]
      · rw [n2_k e, cy_k h1 h2]
theorem apl_4 {s : Nat} {l : List TX} : ∀ n j (q : NN × List WT), q.1 4 s = j → j + n ≤ l.length → (apl s l n j q).1 4 s = j + n := by
  intro n
  induction n with
  | zero => intro j q h _; exact h
  | succ n ih =>
    intro j q h hl
    simp only [apl]
    have e : l[j]? = some l[j] := List.getElem?_eq_getElem (by omega)
    rw [e]
    simp only
    rw [ih (j + 1) _ (by simp only; rw [n2_s]) (by omega)]
    omega
/-- the length of the common beginning, by identifiers -/
def com : List TX → List TX → Nat
  | a :: l, b :: m => if a.1 = b.1 then com l m + 1 else 0
  | _, _ => 0
theorem com_le : ∀ (l m : List TX), com l m ≤ l.length ∧ com l m ≤ m.length := by
  intro l
  induction l with
  | nil => intro m; simp [com]
  | cons a l ih =>
    intro m
    cases m with
    | nil => simp [com]
    | cons b m =>
      simp only [com, List.length_cons]
      have := ih m
      split <;> omega
theorem com_self : ∀ (l : List TX), com l l = l.length := by
  intro l
  induction l with
  | nil => rfl
  | cons a l ih => simp [com, ih]
theorem com_drop {l m : List TX} {j : Nat} (hl : j < l.length) (hm : j < m.length) : com (l.drop j) (m.drop j) = if l[j].1 = m[j].1 then com (l.drop (j + 1)) (m.drop (j + 1)) + 1 else 0 := by
  rw [List.drop_eq_getElem_cons hl, List.drop_eq_getElem_cons hm]
  rfl
