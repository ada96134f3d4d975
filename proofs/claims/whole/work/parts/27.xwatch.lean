/-! ===== what the class's memory holds, changed piece by piece; its watches ===== -/
section XW
variable {c : CX} {lg : LG} {z w : ZZ} {nn : NN} {lo : Nat → List TX} {tr : Nat → List ND} {wt : List WT}
theorem dX_k {k i : Nat} (h : dX k i = true) : k ≤ 4 ∨ k = 10 ∨ k = 11 := by
  simp only [dX, Bool.or_eq_true, Bool.and_eq_true, beq_iff_eq, decide_eq_true_eq] at h
  omega
theorem txof_k {z' : ZZ} (h : ∀ f, 12 ≤ f → f ≤ 16 → z' f = z f) : txof z' = txof z := by
  funext a
  simp only [txof, h 12 (by omega) (by omega), h 13 (by omega) (by omega), h 14 (by omega) (by omega), h 15 (by omega) (by omega), h 16 (by omega) (by omega)]
theorem wtof_k {z' : ZZ} (h : z' 17 = z 17) (h' : z' 19 = z 19) : wtof c z' = wtof c z := by
  funext a
  simp only [wtof, h, h']
theorem slot_k {z' : ZZ} (h : ∀ f, 5 ≤ f → f ≤ 8 → z' f = z f) : slot z' = slot z := by
  funext a
  simp only [slot, h 5 (by omega) (by omega), h 6 (by omega) (by omega), h 7 (by omega) (by omega), h 8 (by omega) (by omega)]
theorem slots_k {z' : ZZ} (h : ∀ f, 5 ≤ f → f ≤ 8 → z' f = z f) (i : Nat) : slots z' i = slots z i := sl_same (fun _ _ _ => by rw [slot_k h])
/-- numbers alone change -/
theorem RX.fr {z' : ZZ} {nn' : NN} (h : RX c lg z nn lo tr wt) (hk : ∀ f, (5 ≤ f ∧ f ≤ 8) ∨ 12 ≤ f → z' f = z f) (hn : ∀ k i, dX k i = true → z' k i = nI (nn' k i)) : RX c lg z' nn' lo tr wt := by
  obtain ⟨h1, h2, ⟨AL, a1, a2, a3⟩, h4⟩ := h
  refine ⟨h1, hn, ⟨AL, fun i hi => (a1 i hi).keep (by rw [hk 20 (by omega)]) rfl rfl, fun i hi => ?_, ?_⟩, fun i hi => ?_⟩
  · rw [txof_k (fun f q1 q2 => hk f (by omega))]
    exact a2 i hi
  · rw [wtof_k (hk 17 (by omega)) (hk 19 (by omega))]
    exact a3
  · rw [slots_k (fun f q1 q2 => hk f (by omega))]
    exact h4 i hi
theorem RX.n {k i v : Nat} (h : RX c lg z nn lo tr wt) (hd : dX k i = true) : RX c lg (u2 z k i (nI v)) (n2 nn k i v) lo tr wt := by
  have hk := dX_k hd
  refine h.fr (fun f hf => u2_k (by omega)) (fun k' i' hd' => n2_u (h.2.1 k' i' hd'))
/-- one tree alone changes -/
theorem RX.tree {z' : ZZ} {i : Nat} {t : List ND} (h : RX c lg z nn lo tr wt) (hk : ∀ f, ¬ (5 ≤ f ∧ f ≤ 8) → z' f = z f) (ho : ∀ i', i' ≠ i → i' < 6 → ∀ m, m < 12 → slot z' (12 * i' + m) = slot z (12 * i' + m)) (hp : (slots z' i).Perm t) : RX c lg z' nn lo (va_up tr i t) wt := by
  obtain ⟨h1, h2, ⟨AL, a1, a2, a3⟩, h4⟩ := h
  refine ⟨h1, fun k i hd => ?_, ⟨AL, fun i hi => (a1 i hi).keep (by rw [hk 20 (by omega)]) rfl rfl, fun i hi => ?_, ?_⟩, fun i' hi => ?_⟩
  · have := dX_k hd
    rw [hk k (by omega)]
    exact h2 k i hd
  · rw [txof_k (fun f q1 q2 => hk f (by omega))]
    exact a2 i hi
  · rw [wtof_k (hk 17 (by omega)) (hk 19 (by omega))]
    exact a3
  · by_cases e : i' = i
    · subst e
      simp only [va_up, if_true]
      exact hp
    · simp only [va_up, if_neg e]
      have e2 : slots z' i' = slots z i' := sl_same (fun k q1 q2 => ho i' e hi k (by omega))
      rw [e2]
      exact h4 i' hi
theorem RX.perm {tr' : Nat → List ND} (h : RX c lg z nn lo tr wt) (hp : ∀ i, i < 6 → (tr i).Perm (tr' i)) : RX c lg z nn lo tr' wt :=
  ⟨h.1, h.2.1, h.2.2.1, fun i hi => (h.2.2.2 i hi).trans (hp i hi)⟩
theorem RX.len (h : RX c lg z nn lo tr wt) : z 20 5 = nI wt.length ∧ ∀ i, i < 5 → z 20 i = nI (lo i).length := by
  obtain ⟨h1, h2, ⟨AL, a1, a2, a3⟩, h4⟩ := h
  refine ⟨?_, fun i hi => ?_⟩
  · rw [(a1 5 (by omega)).1, ← a3, List.length_map]
  · rw [(a1 i (by omega)).1, ← a2 i hi, List.length_map]
/-- a watch -/
theorem RX.wa {j : Nat} {v : WT} (h : RX c lg z nn lo tr wt) (hj : wt[j]? = some v) : ∃ a, (∀ w, fJx4a65c_get_915e3 (c.1 6 5) (nI j) (qE c lg z w) = some (some a, qE c lg z w)) ∧ c.2.1 a = some (13, a) ∧ z 17 a = nI v.1 ∧ c.2.2.2.1 a = v.2.1 ∧ z 19 a = nI v.2.2 := by
  obtain ⟨h1, h2, ⟨AL, a1, a2, a3⟩, h4⟩ := h
  rw [← a3, List.getElem?_map, Option.map_eq_some_iff] at hj
  obtain ⟨a, e1, e2⟩ := hj
  have hl := a1 5 (by omega)
  have ha := h1.2.2.2.2.2.2 j a (by rw [hl.2.1]; exact e1)
  refine ⟨a, fun w => ?_, ha, ?_, ?_, ?_⟩
  · rw [← e1]
    exact l_get h1 (by omega) hl (List.getElem?_eq_some_iff.mp e1).1
  · rw [← e2]; exact (nI_un _).symm
  · rw [← e2]; rfl
  · rw [← e2]; exact (nI_un _).symm
/-- a transaction of a log -/
theorem RX.xa {i j : Nat} {v : TX} (h : RX c lg z nn lo tr wt) (hi : i < 5) (hj : (lo i)[j]? = some v) : ∃ a, (∀ w, fJx4a65c_get_915e3 (c.1 6 i) (nI j) (qE c lg z w) = some (some a, qE c lg z w)) ∧ c.2.1 a = some (8, a) ∧ txof z a = v := by
  obtain ⟨h1, h2, ⟨AL, a1, a2, a3⟩, h4⟩ := h
  rw [← a2 i hi, List.getElem?_map, Option.map_eq_some_iff] at hj
  obtain ⟨a, e1, e2⟩ := hj
  have hl := a1 i (by omega)
  refine ⟨a, fun w => ?_, h1.2.2.2.2.2.1 i j a hi (by rw [hl.2.1]; exact e1), e2⟩
  rw [← e1]
  exact l_get h1 (by omega) hl (List.getElem?_eq_some_iff.mp e1).1
theorem txof_e {a : Nat} {v : TX} (h : txof z a = v) : z 12 a = nI v.1 ∧ z 13 a = nI v.2.1 ∧ z 14 a = nI v.2.2.1 ∧ z 15 a = nI v.2.2.2.1 ∧ z 16 a = nI v.2.2.2.2 := by
  subst h
  exact ⟨(nI_un _).symm, (nI_un _).symm, (nI_un _).symm, (nI_un _).symm, (nI_un _).symm⟩
/-- the number of a tree's server -/
def sv (s : Nat) : Int32 := if s = 5 then -1 else nI s
theorem sv_eq {a s : Nat} (ha : a < 5) (hs : s ≤ 5) : nI a = sv s ↔ a = s := by
  unfold sv
  by_cases h : s = 5
  · subst h
    rw [if_pos rfl, m1_, nI_inj (by omega) (by omega)]
    omega
  · rw [if_neg h, nI_inj (by omega) (by omega)]
theorem x_isFor {a s p : Nat} {v : WT} (t : c.2.1 a = some (13, a)) (h17 : z 17 a = nI v.1) (h19 : z 19 a = nI v.2.2) (hs : s ≤ 5) (hp : p < 4096) (hv : v.1 < 5) (hv2 : v.2.2 < 4096) : fX5_isFor a (sv s) (nI p) (qE c lg z w) = some (if v.1 = s ∧ v.2.2 = p then 1 else 0, qE c lg z w) := by
  unfold fX5_isFor
  rw [vI0 _ _ _ _ t, h17]
  by_cases h1 : v.1 = s
  · rw [jr_t ((sv_eq hv hs).mpr h1), vI2 _ _ _ _ t, h19]
    by_cases h2 : v.2.2 = p
    · rw [jr_t (by rw [h2]), if_pos ⟨h1, h2⟩]; rfl
    · rw [jr_f (fun e => h2 ((nI_eq (by omega) (by omega)).mp e)), if_neg (fun q => h2 q.2)]; rfl
  · rw [jr_f (fun e => h1 ((sv_eq hv hs).mp e)), if_neg (fun q => h1 q.1)]; rfl
theorem x_event {k e kd id : Nat} (hW : qW c lg) (hk : k < 6) (he : z 10 k = nI e) (heb : e < 2 ^ 31) : fX2_addEvent (c.1 10 k) (nI kd) (nI id) (qE c lg z w) = some ((), qE c lg (u2 (u2 z 11 (8 * k + e % 8) (nI (10 * id + kd))) 10 k (nI (e + 1))) w) := by
  unfold fX2_addEvent
  have e7 : nI e &&& 7 = nI (e % 8) := pk_andN (by omega) 3 (by decide)
  rw [eR2 hW _ _ _ _ hk, eI1 hW _ _ _ _ hk, he, e7, eS hW _ _ _ _ _ _ hk (by omega), eI1 hW _ _ _ _ hk, u2_k (by decide), he, eP1 hW _ _ _ _ _ hk, n10, nI_add, nI_1]
  rfl
theorem x_fire1 {s p id kd : Nat} (hs : s ≤ 5) (hp : p < 4096) (hv : WV nn wt) : ∀ n j (z : ZZ) (nn' : NN), RX c lg z nn' lo tr wt → j + n = wt.length → (∀ k, k < 6 → nn' 10 k + n < 2 ^ 31) → ∀ f, n < f → ∃ z', fX6_fire_3 f (c.1 12 0) (sv s) (nI p) (nI kd) (nI id) (nI j) (qE c lg z w) = fX6_fire_67 4096 (c.1 12 0) (sv s) (nI p) (nI wt.length + (-1)) (qE c lg z' w) ∧ RX c lg z' (fe s p (10 * id + kd) (wt.drop j) nn') lo tr wt ∧ (∀ f, 12 ≤ f → f ≤ 16 → z' f = z f) := by
  intro n
  induction n with
  | zero =>
    intro j z nn' h hj hb f hf
    obtain ⟨f, rfl⟩ : ∃ k', f = k' + 1 := ⟨f - 1, by omega⟩
    have hW := h.1
    have hl := hv.1
    refine ⟨z, ?_, by rw [List.drop_eq_nil_of_le (by omega)]; exact h, fun _ _ _ => rfl⟩
    rw [fX6_fire_3, yR hW, lO hW _ _ _ _ (by omega), lS hW _ _ _ _ (by omega), h.len.1, jr_t (nI_le (by omega) (by omega)), yR hW, lO hW _ _ _ _ (by omega), lS hW _ _ _ _ (by omega), h.len.1, Int32.sub_eq_add_neg]
  | succ n ih =>
    intro j z nn' h hj hb f hf
    obtain ⟨f, rfl⟩ : ∃ k', f = k' + 1 := ⟨f - 1, by omega⟩
    have hW := h.1
    have hl := hv.1
    have hjl : j < wt.length := by omega
    have hjv : wt[j]? = some wt[j] := List.getElem?_eq_getElem hjl
    obtain ⟨v1, v2, v3, v4⟩ := hv.2 wt[j] (List.getElem_mem hjl)
    have v5 := okp_lt v4
    obtain ⟨a, b1, b2, b3, b4, b5⟩ := h.wa hjv
    rw [fX6_fire_3, yR hW, lO hW _ _ _ _ (by omega), lS hW _ _ _ _ (by omega), h.len.1, jr_f (nI_ge (by omega) (by omega)), yR hW, lO hW _ _ _ _ (by omega), jr_bd (b1 w), vC _ _ _ _ b2, vO _ _ _ _ b2, jr_bd (x_isFor b2 b3 b5 hs hp v1 v5), List.drop_eq_getElem_cons hjl]
    simp only [fe]
    by_cases hm : wt[j].1 = s ∧ wt[j].2.2 = p
    · simp only [if_pos hm]
      have e10 := h.2.1 10 wt[j].2.1 (by simp [dX]; omega)
      rw [jr_f (by decide), vR1 _ _ _ _ b2, b4, eO hW _ _ _ _ (by omega), jr_bd (x_event hW (by omega) e10 (by have := hb wt[j].2.1 (by omega); omega)), nI_1]
      have h' := (h.n (k := 11) (i := 8 * wt[j].2.1 + nn' 10 wt[j].2.1 % 8) (v := 10 * id + kd) (by simp [dX]; omega)).n (k := 10) (i := wt[j].2.1) (v := nn' 10 wt[j].2.1 + 1) (by simp [dX]; omega)
      suffices hsu : ∀ k, k < 6 → n2 (n2 nn' 11 (8 * wt[j].2.1 + nn' 10 wt[j].2.1 % 8) (10 * id + kd)) 10 wt[j].2.1 (nn' 10 wt[j].2.1 + 1) 10 k + n < 2 ^ 31 by
        obtain ⟨z', q1, q2, q3⟩ := ih (j + 1) _ _ h' (by omega) hsu f (by omega)
        exact ⟨z', q1, q2, fun g g1 g2 => by rw [q3 g g1 g2, u2_k (by omega), u2_k (by omega)]⟩
      intro k hk
      have q := hb k hk
      have q2 := hb wt[j].2.1 (by omega)
      by_cases e : k = wt[j].2.1
      · subst e
        rw [n2_s]
        omega
      · rw [n2_i e, n2_k (by decide)]
        omega
    · simp only [if_neg hm]
      rw [jr_t trivial, nI_1]
      exact ih (j + 1) z nn' h (by omega) (fun k hk => by have := hb k hk; omega) f (by omega)
/-- the list of the watches changes -/
theorem RX.wl {lg' : LG} {x y : Int32} {l : List Nat} (h : RX c lg z nn lo tr wt) (hW : qW c lg') (hl : ∀ i', i' ≠ 5 → lg' i' = lg i') (h5 : LI c lg' (u2 (u2 z 9 5 x) 20 5 y) 5 l) : RX c lg' (u2 (u2 z 9 5 x) 20 5 y) nn lo tr (l.map (wtof c z)) := by
  obtain ⟨h1, h2, ⟨AL, a1, a2, a3⟩, h4⟩ := h
  refine ⟨hW, fun k i hd => ?_, ⟨va_up AL 5 l, fun i hi => ?_, fun i hi => ?_, ?_⟩, fun i hi => ?_⟩
  · have := dX_k hd
    rw [u2_k (by omega), u2_k (by omega)]
    exact h2 k i hd
  · by_cases e : i = 5
    · subst e
      simp only [va_up, if_true]
      exact h5
    · simp only [va_up, if_neg e]
      exact (a1 i hi).keep (by rw [u2_i e, u2_k (by decide)]) (hl i e) rfl
  · rw [txof_k (z := z) (fun f q1 q2 => by rw [u2_k (by omega), u2_k (by omega)])]
    simp only [va_up, if_neg (show i ≠ 5 by omega)]
    exact a2 i hi
  · rw [wtof_k (z := z) (by rw [u2_k (by decide), u2_k (by decide)]) (by rw [u2_k (by decide), u2_k (by decide)])]
    simp only [va_up, if_true]
  · rw [slots_k (z := z) (fun f q1 q2 => by rw [u2_k (by omega), u2_k (by omega)])]
    exact h4 i hi
theorem eraseIdx_map_ {α β : Type} (f : α → β) : ∀ (l : List α) (i : Nat), (l.eraseIdx i).map f = (l.map f).eraseIdx i := by
  intro l
  induction l with
  | nil => intro i; simp
  | cons a l ih =>
    intro i
    cases i with
    | zero => simp
    | succ i => simp [ih]
/-- a watch goes -/
theorem RX.wdel {l1 l2 : List WT} {v : WT} (h : RX c lg z nn lo tr (l1 ++ v :: l2)) : ∃ r lg' z', fJx4a65c_remove_915e3 (c.1 6 5) (nI l1.length) (qE c lg z w) = some (r, qE c lg' z' w) ∧ RX c lg' z' nn lo tr (l1 ++ l2) ∧ (∀ f, 12 ≤ f → f ≤ 16 → z' f = z f) := by
  obtain ⟨h1, h2, ⟨AL, a1, a2, a3⟩, h4⟩ := id h
  have hl := a1 5 (by omega)
  have hlen : (AL 5).length = l1.length + (l2.length + 1) := by
    have := congrArg List.length a3
    simpa using this
  obtain ⟨lg', x, e1, e2, e3, e4⟩ := l_remove (j := l1.length) (w := w) h1 (by omega) hl (by omega)
  refine ⟨_, lg', _, e1, ?_, fun f g1 g2 => by rw [u2_k (by omega), u2_k (by omega)]⟩
  have e5 := h.wl e2 e3 e4
  rw [eraseIdx_map_, a3] at e5
  have e6 : (l1 ++ v :: l2).eraseIdx l1.length = l1 ++ l2 := by
    rw [List.eraseIdx_append_of_length_le (Nat.le_refl _)]
    simp
  rw [e6] at e5
  exact e5
theorem nI_m1 : nI 0 + (-1) < 0 := by decide +kernel
theorem x_fire2 {s p : Nat} (hs : s ≤ 5) (hp : p < 4096) : ∀ n (l1 l2 : List WT) (lg : LG) (z : ZZ), l1.length = n → RX c lg z nn lo tr (l1 ++ l2) → WV nn (l1 ++ l2) → ∀ f, n < f → ∃ lg' z', fX6_fire_67 f (c.1 12 0) (sv s) (nI p) (nI n + (-1)) (qE c lg z w) = some ((), qE c lg' z' w) ∧ RX c lg' z' nn lo tr (wf s p l1 ++ l2) ∧ (∀ f, 12 ≤ f → f ≤ 16 → z' f = z f) := by
  intro n
  induction n with
  | zero =>
    intro l1 l2 lg z hn h hv f hf
    obtain ⟨f, rfl⟩ : ∃ k', f = k' + 1 := ⟨f - 1, by omega⟩
    have e : l1 = [] := List.eq_nil_of_length_eq_zero hn
    subst e
    refine ⟨lg, z, ?_, h, fun _ _ _ => rfl⟩
    rw [fX6_fire_67, jr_t nI_m1]
    rfl
  | succ n ih =>
    intro l1 l2 lg z hn h hv f hf
    obtain ⟨f, rfl⟩ : ∃ k', f = k' + 1 := ⟨f - 1, by omega⟩
    obtain ⟨l, v, rfl⟩ : ∃ l v, l1 = l ++ [v] := ⟨l1.dropLast, l1.getLast (by intro q; subst q; simp at hn), (List.dropLast_concat_getLast _).symm⟩
    have hln : l.length = n := by simpa using hn
    have hW := h.1
    have e0 : l ++ [v] ++ l2 = l ++ v :: l2 := by simp
    rw [e0] at h hv
    have hlen := hv.1
    rw [List.length_append, List.length_cons] at hlen
    obtain ⟨v1, v2, v3, v4⟩ := hv.2 v (by simp)
    have v5 := okp_lt v4
    obtain ⟨a, b1, b2, b3, b4, b5⟩ := h.wa (j := n) (v := v) (by rw [List.getElem?_append_right (by omega), hln]; simp)
    rw [fX6_fire_67, pk_m1, jr_f (nI_pos (by omega)), yR hW, lO hW _ _ _ _ (by omega), jr_bd (b1 w), vC _ _ _ _ b2, vO _ _ _ _ b2, jr_bd (x_isFor b2 b3 b5 hs hp v1 v5)]
    have hv1 : WV nn (l ++ l2) := ⟨by rw [List.length_append]; omega, fun u hu => hv.2 u (by simp only [List.mem_append, List.mem_cons] at hu ⊢; rcases hu with q | q <;> simp [q])⟩
    by_cases hm : v.1 = s ∧ v.2.2 = p
    · simp only [if_pos hm]
      obtain ⟨r, lg', z', e1, e2, e9⟩ := h.wdel (w := w)
      rw [hln] at e1
      rw [jr_f (by decide), yR hW, lO hW _ _ _ _ (by omega), jr_bd e1]
      obtain ⟨lg2, z2, f1, f2, f3⟩ := ih l l2 lg' z' hln e2 hv1 f (by omega)
      refine ⟨lg2, z2, f1, ?_, fun g g1 g2 => (f3 g g1 g2).trans (e9 g g1 g2)⟩
      have e3 : wf s p (l ++ [v]) = wf s p l := by simp [wf, List.filter_append, hm.1, hm.2]
      rw [e3]
      exact f2
    · simp only [if_neg hm]
      rw [jr_t trivial]
      obtain ⟨lg2, z2, f1, f2, f3⟩ := ih l (v :: l2) lg z hln h hv f (by omega)
      refine ⟨lg2, z2, f1, ?_, f3⟩
      have e3 : wf s p (l ++ [v]) = wf s p l ++ [v] := by
        have : (!(v.1 == s && v.2.2 == p)) = true := by
          simp only [Bool.not_eq_true', Bool.and_eq_false_iff, beq_eq_false_iff_ne]
          by_cases q : v.1 = s
          · exact Or.inr (fun q2 => hm ⟨q, q2⟩)
          · exact Or.inl q
        rw [wf, wf, List.filter_append]
        congr 1
        exact List.filter_cons_of_pos (p := fun v : WT => !(v.1 == s && v.2.2 == p)) this
      rw [e3]
      simpa using f2
theorem x_fire {s p id kd : Nat} (h : RX c lg z nn lo tr wt) (hs : s ≤ 5) (hp : p < 4096) (hv : WV nn wt) (hb : ∀ k, k < 6 → nn 10 k < 100000) : ∃ lg' z', fX6_fire (c.1 12 0) (sv s) (nI p) (nI kd) (nI id) (qE c lg z w) = some ((), qE c lg' z' w) ∧ RX c lg' z' (fe s p (10 * id + kd) wt nn) lo tr (wf s p wt) ∧ (∀ f, 12 ≤ f → f ≤ 16 → z' f = z f) := by
  have hl := hv.1
  obtain ⟨z1, e1, e2, e9⟩ := x_fire1 (w := w) (id := id) (kd := kd) hs hp hv wt.length 0 z nn h (by omega) (fun k hk => by have := hb k hk; omega) 4096 (by omega)
  have hv' : ∀ (l : List WT) (nn : NN), WV nn l → ∀ m : List WT, (∀ v, v ∈ m → v.2.1 < 6) → WV (fe s p (10 * id + kd) m nn) l := by
    intro l nn hl m
    induction m generalizing nn with
    | nil => exact fun _ => hl
    | cons v m ih =>
      intro hm
      simp only [fe]
      split
      · refine ih _ ?_ (fun u hu => hm u (by simp [hu]))
        have e : (n2 (n2 nn 11 (8 * v.2.1 + nn 10 v.2.1 % 8) (10 * id + kd)) 10 v.2.1 (nn 10 v.2.1 + 1)) 0 5 = nn 0 5 := by rw [n2_k (by decide), n2_k (by decide)]
        unfold WV
        rw [e]
        exact hl
      · exact ih _ hl (fun u hu => hm u (by simp [hu]))
  have hm6 : ∀ v, v ∈ wt → v.2.1 < 6 := fun v hv2 => by have := hv.2 v hv2; omega
  obtain ⟨lg2, z2, f1, f2, f3⟩ := x_fire2 (w := w) (s := s) (p := p) hs hp wt.length wt [] lg z1 rfl (by rw [List.append_nil]; exact e2) (by rw [List.append_nil]; exact hv' wt nn hv wt hm6) 4096 (by omega)
  refine ⟨lg2, z2, ?_, by rw [List.append_nil] at f2; exact f2, fun g g1 g2 => (f3 g g1 g2).trans (e9 g g1 g2)⟩
  unfold fX6_fire
  exact e1.trans f1
theorem fe_05 {s p x : Nat} : ∀ (m : List WT) (nn : NN) (k i : Nat), k ≠ 10 → k ≠ 11 → fe s p x m nn k i = nn k i := by
  intro m
  induction m with
  | nil => intro nn k i _ _; rfl
  | cons v m ih =>
    intro nn k i h1 h2
    simp only [fe]
    split
    · rw [ih _ k i h1 h2, n2_k h1, n2_k h2]
    · exact ih _ k i h1 h2
end XW
