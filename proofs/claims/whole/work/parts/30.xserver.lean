/-! ===== the class's servers ===== -/
section XV
variable {c : CX} {lg : LG} {z w : ZZ} {nn : NN} {lo : Nat → List TX} {tr : Nat → List ND} {wt : List WT}
/-- what a call may make: addresses stay -/
def KE (c c' : CX) (n m : Nat) : Prop := (∀ k j, k ≠ 7 → c'.1 k j = c.1 k j) ∧ (∀ a, c.2.1 a = some (8, a) → c'.2.1 a = some (8, a)) ∧ c'.2.2.2.2.2.1 ≤ c.2.2.2.2.2.1 + n ∧ c'.2.2.2.2.2.2.1 ≤ c.2.2.2.2.2.2.1 + m
theorem KE.rfl : KE c c 0 0 := ⟨fun _ _ _ => _root_.rfl, fun _ h => h, Nat.le_refl _, Nat.le_refl _⟩
theorem KE.trans {c c' c'' : CX} {n m n' m' : Nat} (h : KE c c' n m) (h' : KE c' c'' n' m') : KE c c'' (n + n') (m + m') := by
  obtain ⟨a1, a2, a3, a4⟩ := h
  obtain ⟨b1, b2, b3, b4⟩ := h'
  exact ⟨fun k j hk => (b1 k j hk).trans (a1 k j hk), fun a q => b2 a (a2 a q), by omega, by omega⟩
theorem KE.mono {c c' : CX} {n m n' m' : Nat} (h : KE c c' n m) (h1 : n ≤ n') (h2 : m ≤ m') : KE c c' n' m' := by
  obtain ⟨a1, a2, a3, a4⟩ := h
  exact ⟨a1, a2, by omega, by omega⟩
/-- one log changes -/
theorem RX.ll {c' : CX} {lg' : LG} {x y : Int32} {l : List Nat} {s : Nat} (h : RX c lg z nn lo tr wt) (hs : s < 5) (hW : qW c' lg') (hl : ∀ i', i' ≠ s → lg' i' = lg i') (hE : CE c c' s) (h5 : LI c' lg' (u2 (u2 z 9 s x) 20 s y) s l) : RX c' lg' (u2 (u2 z 9 s x) 20 s y) nn (va_up lo s (l.map (txof z))) tr wt := by
  obtain ⟨h1, h2, ⟨AL, a1, a2, a3⟩, h4⟩ := h
  refine ⟨hW, fun k i hd => ?_, ⟨va_up AL s l, fun i hi => ?_, fun i hi => ?_, ?_⟩, fun i hi => ?_⟩
  · have := dX_k hd
    rw [u2_k (by omega), u2_k (by omega)]
    exact h2 k i hd
  · by_cases e : i = s
    · subst e
      simp only [va_up, if_true]
      exact h5
    · simp only [va_up, if_neg e]
      exact (a1 i hi).keep (by rw [u2_i e, u2_k (by decide)]) (hl i e) (hE.2.2.1 i e)
  · rw [txof_k (z := z) (fun f q1 q2 => by rw [u2_k (by omega), u2_k (by omega)])]
    by_cases e : i = s
    · subst e
      simp only [va_up, if_true]
    · simp only [va_up, if_neg e]
      exact a2 i hi
  · rw [wtof_k (z := z) (by rw [u2_k (by decide), u2_k (by decide)]) (by rw [u2_k (by decide), u2_k (by decide)])]
    simp only [va_up, if_neg (show (5 : Nat) ≠ s by omega)]
    have e : wtof c' z = wtof c z := by
      funext a
      simp only [wtof, hE.2.2.2.1]
    rw [e]
    exact a3
  · rw [slots_k (z := z) (fun f q1 q2 => by rw [u2_k (by omega), u2_k (by omega)])]
    exact h4 i hi
theorem RX.ladd {a s : Nat} {x : TX} (w : ZZ) (h : RX c lg z nn lo tr wt) (hs : s < 5) (t : c.2.1 a = some (8, a)) (hx : txof z a = x) (hl : (lo s).length ≤ 39) : ∃ c' lg' z', fJx4a65c_add_9ea2d (c.1 6 s) (some a) (qE c lg z w) = some (1, qE c' lg' z' w) ∧ RX c' lg' z' nn (va_up lo s (lo s ++ [x])) tr wt ∧ KE c c' 1 58 ∧ (∀ f, 12 ≤ f → f ≤ 16 → z' f = z f) := by
  obtain ⟨h1, h2, ⟨AL, a1, a2, a3⟩, h4⟩ := id h
  have hlen : (AL s).length = (lo s).length := by rw [← a2 s hs, List.length_map]
  obtain ⟨c', lg', y, e1, e2, e3, e4, e5, e6, e7⟩ := l_add (w := w) h1 (show s < 6 by omega) (a1 s (by omega)) (by omega) (fun _ => t) (fun q => by omega)
  refine ⟨c', lg', _, e1, ?_, ⟨fun k j hk => e5.1 k j (fun q => hk q.1), fun b hb => e5.2.1 b 8 b hb (by decide), e6, e7⟩, fun f g1 g2 => by rw [u2_k (by omega), u2_k (by omega)]⟩
  have r := h.ll hs e2 e3 e5 e4
  rw [List.map_append, a2 s hs, List.map_cons, List.map_nil, hx] at r
  exact r
theorem RX.ldel {s : Nat} {x : TX} {l : List TX} (w : ZZ) (h : RX c lg z nn lo tr wt) (hs : s < 5) (hl : lo s = l ++ [x]) : ∃ r lg' z', fJx4a65c_remove_915e3 (c.1 6 s) (nI l.length) (qE c lg z w) = some (r, qE c lg' z' w) ∧ RX c lg' z' nn (va_up lo s l) tr wt := by
  obtain ⟨h1, h2, ⟨AL, a1, a2, a3⟩, h4⟩ := id h
  have hlen : (AL s).length = l.length + 1 := by
    have := congrArg List.length (a2 s hs)
    rw [hl] at this
    simpa using this
  obtain ⟨lg', y, e1, e2, e3, e4⟩ := l_remove (j := l.length) (w := w) h1 (show s < 6 by omega) (a1 s (by omega)) (by omega)
  refine ⟨_, lg', _, e1, ?_⟩
  have r := h.ll hs e2 e3 CE.rfl e4
  rw [eraseIdx_map_, a2 s hs, hl] at r
  have e6 : (l ++ [x]).eraseIdx l.length = l := by
    rw [List.eraseIdx_append_of_length_le (Nat.le_refl _)]
    simp
  rw [e6] at r
  exact r
theorem va_self {α : Type} (f : Nat → α) (i : Nat) : va_up f i (f i) = f := by
  funext q
  by_cases hq : q = i
  · subst hq; simp [va_up]
  · simp [va_up, hq]
theorem va_va {α : Type} (f : Nat → α) (i : Nat) (x y : α) : va_up (va_up f i x) i y = va_up f i y := by
  funext q
  by_cases hq : q = i <;> simp [va_up, hq]
theorem va_s {α : Type} (f : Nat → α) (i : Nat) (x : α) : va_up f i x i = x := by simp [va_up]
theorem va_n {α : Type} {f : Nat → α} {i j : Nat} {x : α} (h : j ≠ i) : va_up f i x j = f j := by simp [va_up, h]
/-- reading a log -/
theorem RX.idl {i : Nat} {x : TX} (h : RX c lg z nn lo tr wt) (hi : i < 5) (hx : x ∈ lo i) : x.1 < 2 ^ 32 ∧ x.2.1 < 2 ^ 32 ∧ x.2.2.2.2 < 2 ^ 32 := by
  obtain ⟨h1, h2, ⟨AL, a1, a2, a3⟩, h4⟩ := h
  rw [← a2 i hi] at hx
  obtain ⟨a, e1, e2⟩ := List.mem_map.mp hx
  subst e2
  exact ⟨un_lt _, un_lt _, un_lt _⟩
def nid (l : List TX) : Nat := match l.getLast? with
  | none => 0
  | some x => x.1
theorem x_newest {s : Nat} (w : ZZ) (h : RX c lg z nn lo tr wt) (hs : s < 5) (hl : (lo s).length ≤ 40) : fX1_newestIdentifier (c.1 2 s) (qE c lg z w) = some (nI (nid (lo s)), qE c lg z w) := by
  have hW := h.1
  obtain ⟨AL, a1, a2, a3⟩ := h.2.2.1
  unfold fX1_newestIdentifier
  rw [sR2 hW _ _ _ _ hs, lO hW _ _ _ _ (by omega), jr_bd (l_isEmpty hW (show s < 6 by omega) (a1 s (by omega)))]
  have hlen : (AL s).length = (lo s).length := by rw [← a2 s hs, List.length_map]
  by_cases he : AL s = []
  · have e2 : lo s = [] := by rw [← a2 s hs, he]; rfl
    rw [if_pos he, jr_f (by decide), e2]
    rfl
  · rw [if_neg he, jr_t rfl]
    have hpos : 0 < (lo s).length := by rw [← hlen]; exact List.length_pos_iff.mpr he
    have hg : (lo s)[(lo s).length - 1]? = some ((lo s)[(lo s).length - 1]'(by omega)) := List.getElem?_eq_getElem (by omega)
    obtain ⟨a, b1, b2, b3⟩ := h.xa hs hg
    rw [sR2 hW _ _ _ _ hs, sR2 hW _ _ _ _ hs, lO hW _ _ _ _ (by omega), lS hW _ _ _ _ (by omega), lO hW _ _ _ _ (by omega), h.len.2 s hs, nI_sub1 hpos, jr_bd (b1 w), xTc _ _ _ _ b2, xT0 _ _ _ _ b2, (txof_e b3).1]
    have e : nid (lo s) = ((lo s)[(lo s).length - 1]'(by omega)).1 := by
      unfold nid
      rw [List.getLast?_eq_getElem?, hg]
    rw [e]
    rfl
def hcl (ses : Nat) (l : List TX) : Bool := l.any (fun x => x.2.1 == 3 && x.2.2.2.2 == ses)
theorem hcl_t {ses : Nat} {x : TX} {l : List TX} (h : x.2.1 = 3 ∧ x.2.2.2.2 = ses) : hcl ses (x :: l) = true := by simp [hcl, h.1, h.2]
theorem hcl_f {ses : Nat} {x : TX} {l : List TX} (h : ¬ (x.2.1 = 3 ∧ x.2.2.2.2 = ses)) : hcl ses (x :: l) = hcl ses l := by
  have e : (x.2.1 == 3 && x.2.2.2.2 == ses) = false := by
    simp only [Bool.and_eq_false_iff, beq_eq_false_iff_ne]
    by_cases q : x.2.1 = 3
    · exact Or.inr (fun q2 => h ⟨q, q2⟩)
    · exact Or.inl q
  simp [hcl, List.any_cons, e]
theorem x_closed_l {s ses : Nat} (w : ZZ) (h : RX c lg z nn lo tr wt) (hs : s < 5) (hl : (lo s).length ≤ 40) (hses : ses < 2 ^ 32) : ∀ n j, j + n = (lo s).length → ∀ k, n < k → fX1_hasClosed_2 k (c.1 2 s) (nI ses) (nI j) (qE c lg z w) = some (if hcl ses ((lo s).drop j) = true then 1 else 0, qE c lg z w) := by
  intro n
  induction n with
  | zero =>
    intro j hj k hk
    obtain ⟨k, rfl⟩ : ∃ k', k = k' + 1 := ⟨k - 1, by omega⟩
    rw [fX1_hasClosed_2, sR2 h.1 _ _ _ _ hs, lO h.1 _ _ _ _ (by omega), lS h.1 _ _ _ _ (by omega), h.len.2 s hs, jr_t (nI_le (by omega) (by omega)), List.drop_eq_nil_of_le (by omega)]
    rfl
  | succ n ih =>
    intro j hj k hk
    obtain ⟨k, rfl⟩ : ∃ k', k = k' + 1 := ⟨k - 1, by omega⟩
    have hjl : j < (lo s).length := by omega
    obtain ⟨a, b1, b2, b3⟩ := h.xa hs (List.getElem?_eq_getElem hjl)
    obtain ⟨t0, t1, t2, t3, t4⟩ := txof_e b3
    obtain ⟨i0, i1, i2⟩ := h.idl hs (List.getElem_mem hjl)
    rw [fX1_hasClosed_2, sR2 h.1 _ _ _ _ hs, lO h.1 _ _ _ _ (by omega), lS h.1 _ _ _ _ (by omega), h.len.2 s hs, jr_f (nI_ge (by omega) (by omega)), sR2 h.1 _ _ _ _ hs, lO h.1 _ _ _ _ (by omega), jr_bd (b1 w), xTc _ _ _ _ b2, xT1 _ _ _ _ b2, t1, List.drop_eq_getElem_cons hjl]
    by_cases e3 : (lo s)[j].2.1 = 3
    · rw [jr_t (by rw [e3]; rfl), xT4 _ _ _ _ b2, t4]
      by_cases e4 : (lo s)[j].2.2.2.2 = ses
      · rw [jr_t (by rw [e4]), hcl_t ⟨e3, e4⟩]
        rfl
      · rw [jr_f (fun q => e4 ((nI_inj i2 hses).mp q)), nI_1, ih (j + 1) (by omega) k (by omega), hcl_f (fun q => e4 q.2)]
    · rw [jr_f (show ¬ nI (lo s)[j].2.1 = 3 from fun q => e3 ((nI_inj (b := 3) i1 (by omega)).mp q)), nI_1, ih (j + 1) (by omega) k (by omega), hcl_f (fun q => e3 q.1)]
theorem x_closed {s ses : Nat} (w : ZZ) (h : RX c lg z nn lo tr wt) (hs : s < 5) (hl : (lo s).length ≤ 40) (hses : ses < 2 ^ 32) : fX1_hasClosed (c.1 2 s) (nI ses) (qE c lg z w) = some (if hcl ses (lo s) = true then 1 else 0, qE c lg z w) := by
  have e := x_closed_l w h hs hl hses (lo s).length 0 (by omega) 4096 (by omega)
  rw [List.drop_zero] at e
  exact e
theorem x_common_l {s g m : Nat} (w : ZZ) (h : RX c lg z nn lo tr wt) (hs : s < 5) (hg : g < 5) (hm : m ≤ 40) (hm1 : m ≤ (lo s).length) (hm2 : m ≤ (lo g).length) (hm3 : m = (lo s).length ∨ m = (lo g).length) : ∀ n j, j + n = m → ∀ k, n < k → fX1_commonLength_20 k (c.1 2 s) (some (c.1 2 g)) (nI m) (nI j) (qE c lg z w) = some (nI (j + com ((lo s).drop j) ((lo g).drop j)), qE c lg z w) := by
  intro n
  induction n with
  | zero =>
    intro j hj k hk
    obtain ⟨k, rfl⟩ : ∃ k', k = k' + 1 := ⟨k - 1, by omega⟩
    rw [fX1_commonLength_20, jr_t (nI_le (by omega) (by omega))]
    have e : com ((lo s).drop j) ((lo g).drop j) = 0 := by
      have := com_le ((lo s).drop j) ((lo g).drop j)
      rw [List.length_drop, List.length_drop] at this
      omega
    rw [e, show j + 0 = m by omega]
    rfl
  | succ n ih =>
    intro j hj k hk
    obtain ⟨k, rfl⟩ : ∃ k', k = k' + 1 := ⟨k - 1, by omega⟩
    have hjl : j < (lo s).length := by omega
    have hjg : j < (lo g).length := by omega
    obtain ⟨a, b1, b2, b3⟩ := h.xa hs (List.getElem?_eq_getElem hjl)
    obtain ⟨a', b1', b2', b3'⟩ := h.xa hg (List.getElem?_eq_getElem hjg)
    have i1 := (h.idl hs (List.getElem_mem hjl)).1
    have i2 := (h.idl hg (List.getElem_mem hjg)).1
    rw [fX1_commonLength_20, jr_f (nI_ge (by omega) (by omega)), sR2 h.1 _ _ _ _ hs, lO h.1 _ _ _ _ (by omega), jr_bd (b1 w), xTc _ _ _ _ b2, xT0 _ _ _ _ b2, (txof_e b3).1, sR2 h.1 _ _ _ _ hg, lO h.1 _ _ _ _ (by omega), jr_bd (b1' w), xTc _ _ _ _ b2', xT0 _ _ _ _ b2', (txof_e b3').1, com_drop hjl hjg]
    by_cases e : (lo s)[j].1 = (lo g)[j].1
    · rw [if_pos e, jr_t (by rw [e]), nI_1, ih (j + 1) (by omega) k (by omega)]
      congr 3
      omega
    · rw [if_neg e, jr_f (fun q => e ((nI_inj i1 i2).mp q))]
      rfl
theorem x_common {s g : Nat} (w : ZZ) (h : RX c lg z nn lo tr wt) (hs : s < 5) (hg : g < 5) (hl : (lo s).length ≤ 40) (hl2 : (lo g).length ≤ 40) : fX1_commonLength (c.1 2 s) (some (c.1 2 g)) (qE c lg z w) = some (nI (com (lo s) (lo g)), qE c lg z w) := by
  have hW := h.1
  unfold fX1_commonLength
  rw [sR2 hW _ _ _ _ hs, lO hW _ _ _ _ (by omega), lS hW _ _ _ _ (by omega), sR2 hW _ _ _ _ hg, lO hW _ _ _ _ (by omega), lS hW _ _ _ _ (by omega), h.len.2 s hs, h.len.2 g hg]
  by_cases hlt : (lo g).length < (lo s).length
  · rw [if_pos (nI_lt hlt (by omega))]
    have e := x_common_l (m := (lo g).length) w h hs hg hl2 (by omega) (by omega) (Or.inr rfl) _ 0 (Nat.zero_add _) 4096 (by omega)
    rw [List.drop_zero, List.drop_zero, Nat.zero_add] at e
    exact e
  · rw [if_neg (nI_nlt (by omega) (by omega))]
    have e := x_common_l (m := (lo s).length) w h hs hg hl (by omega) (by omega) (Or.inl rfl) _ 0 (Nat.zero_add _) 4096 (by omega)
    rw [List.drop_zero, List.drop_zero, Nat.zero_add] at e
    exact e
/-- servers' addresses differ -/
theorem ad_inj {i j : Nat} (hW : qW c lg) (hi : i < 5) (hj : j < 5) : some (c.1 2 i) = some (c.1 2 j) ↔ i = j := by
  constructor
  · intro e
    have h1 := hW.t (qx2 hi)
    have h2 := hW.t (qx2 hj)
    rw [Option.some.inj e, h2] at h1
    have h3 := congrArg (fun o => (o.getD (0, 0)).2) h1
    exact h3.symm
  · intro e
    rw [e]
/-- the appended ones -/
theorem x_copy_a {s g e : Nat} {r y : Int32} (w : ZZ) (hs : s < 5) (hg : g < 5) (hsg : s ≠ g) (he : e ≤ 40) : ∀ n j (c : CX) (lg : LG) (z : ZZ) (lo : Nat → List TX), RX c lg z nn lo tr wt → (lo g).length = e → (lo s).length = j → j + n = e → ∀ k, n < k → ∃ c' lg' z', fX1_copyLogOf_68 k (c.1 2 s) (some (c.1 2 g)) y r (nI e) (nI j) (qE c lg z w) = some (100 * r + nI e - y, qE c' lg' z' w) ∧ RX c' lg' z' nn (va_up lo s (lo s ++ (lo g).drop j)) tr wt ∧ KE c c' n (58 * n) := by
  intro n
  induction n with
  | zero =>
    intro j c lg z lo h hl hj hjn k hk
    obtain ⟨k, rfl⟩ : ∃ k', k = k' + 1 := ⟨k - 1, by omega⟩
    refine ⟨c, lg, z, ?_, ?_, KE.rfl⟩
    · rw [fX1_copyLogOf_68, jr_t (nI_le (by omega) (by omega))]
      rfl
    · rw [List.drop_eq_nil_of_le (by omega), List.append_nil, va_self]
      exact h
  | succ n ih =>
    intro j c lg z lo h hl hj hjn k hk
    obtain ⟨k, rfl⟩ : ∃ k', k = k' + 1 := ⟨k - 1, by omega⟩
    have hjg : j < (lo g).length := by omega
    obtain ⟨a, b1, b2, b3⟩ := h.xa hg (List.getElem?_eq_getElem hjg)
    obtain ⟨c1, lg1, z1, e1, e2, e3, -⟩ := h.ladd w hs b2 b3 (by omega)
    have eg : va_up lo s (lo s ++ [(lo g)[j]]) g = lo g := va_n (Ne.symm hsg)
    obtain ⟨c2, lg2, z2, f1, f2, f3⟩ := ih (j + 1) c1 lg1 z1 _ e2 (by rw [eg]; exact hl) (by rw [va_s, List.length_append, hj]; rfl) (by omega) k (by omega)
    refine ⟨c2, lg2, z2, ?_, ?_, (e3.trans f3).mono (by omega) (by omega)⟩
    · rw [fX1_copyLogOf_68, jr_f (nI_ge (by omega) (by omega)), sR2 h.1 _ _ _ _ hs, sR2 h.1 _ _ _ _ hg, lO h.1 _ _ _ _ (by omega), jr_bd (b1 w), xTc _ _ _ _ b2, lO h.1 _ _ _ _ (by omega), jr_bd e1, nI_1]
      rw [e3.1 2 s (by decide), e3.1 2 g (by decide)] at f1
      exact f1
    · rw [va_va, va_s, eg, List.append_assoc, List.singleton_append, ← List.drop_eq_getElem_cons hjg] at f2
      exact f2
/-- the removed ones -/
theorem x_copy_r {s g m : Nat} {r q : Int32} (w : ZZ) (hs : s < 5) : ∀ n (lg : LG) (z : ZZ) (lo : Nat → List TX), RX c lg z nn lo tr wt → (lo s).length ≤ 40 → (lo s).length = m + n → ∀ k, n < k → ∃ lg' z', fX1_copyLogOf_43 k (c.1 2 s) (some (c.1 2 g)) (nI m) r q (nI (m + n) + (-1)) (qE c lg z w) = fX1_copyLogOf_68 4096 (c.1 2 s) (some (c.1 2 g)) (nI m) r q (nI m) (qE c lg' z' w) ∧ RX c lg' z' nn (va_up lo s ((lo s).take m)) tr wt := by
  intro n
  induction n with
  | zero =>
    intro lg z lo h hl hn k hk
    obtain ⟨k, rfl⟩ : ∃ k', k = k' + 1 := ⟨k - 1, by omega⟩
    refine ⟨lg, z, ?_, ?_⟩
    · rw [fX1_copyLogOf_43, jr_t]
      cases m with
      | zero => exact nI_m1
      | succ m => rw [Nat.add_zero, pk_m1]; exact nI_lt (by omega) (by omega)
    · rw [List.take_of_length_le (by omega), va_self]
      exact h
  | succ n ih =>
    intro lg z lo h hl hn k hk
    obtain ⟨k, rfl⟩ : ∃ k', k = k' + 1 := ⟨k - 1, by omega⟩
    have hne : lo s ≠ [] := by intro e; rw [e] at hn; simp at hn
    have hd : lo s = (lo s).dropLast ++ [(lo s).getLast hne] := (List.dropLast_concat_getLast _).symm
    have hdl : (lo s).dropLast.length = m + n := by rw [List.length_dropLast]; omega
    obtain ⟨r0, lg1, z1, e1, e2⟩ := h.ldel w hs hd
    rw [hdl] at e1
    obtain ⟨lg2, z2, f1, f2⟩ := ih lg1 z1 _ e2 (by rw [va_s]; omega) (by rw [va_s]; omega) k (by omega)
    refine ⟨lg2, z2, ?_, ?_⟩
    · rw [fX1_copyLogOf_43, show m + (n + 1) = m + n + 1 by omega, pk_m1, jr_f (nI_nlt (by omega) (by omega)), sR2 h.1 _ _ _ _ hs, lO h.1 _ _ _ _ (by omega), jr_bd e1]
      exact f1
    · rw [va_va, va_s] at f2
      have e : (lo s).dropLast.take m = (lo s).take m := by
        conv => rhs; rw [hd]
        rw [List.take_append_of_le_length (by omega)]
      rw [e] at f2
      exact f2
theorem x_copy {s g : Nat} (w : ZZ) (h : RX c lg z nn lo tr wt) (hs : s < 5) (hg : g < 5) (hl : (lo s).length ≤ 40) (hl2 : (lo g).length ≤ 40) : ∃ c' lg' z', fX1_copyLogOf (c.1 2 s) (some (c.1 2 g)) (qE c lg z w) = some (nI (100 * ((lo s).length - com (lo s) (lo g)) + ((lo g).length - com (lo s) (lo g))), qE c' lg' z' w) ∧ RX c' lg' z' nn (va_up lo s ((lo s).take (com (lo s) (lo g)) ++ (lo g).drop (com (lo s) (lo g)))) tr wt ∧ KE c c' 40 2320 := by
  have hW := h.1
  have hc := com_le (lo s) (lo g)
  by_cases hsg : s = g
  · subst hsg
    refine ⟨c, lg, z, ?_, ?_, KE.rfl.mono (by omega) (by omega)⟩
    · unfold fX1_copyLogOf
      rw [jr_t ((ad_inj hW hs hs).mpr rfl), com_self, Nat.sub_self]
      rfl
    · rw [List.take_append_drop, va_self]
      exact h
  · obtain ⟨lg1, z1, e1, e2⟩ := x_copy_r (g := g) (m := com (lo s) (lo g)) (r := nI ((lo s).length - com (lo s) (lo g))) (q := nI (lo g).length) w hs ((lo s).length - com (lo s) (lo g)) lg z lo h hl (by omega) 4096 (by omega)
    have hstep : fX1_copyLogOf (c.1 2 s) (some (c.1 2 g)) (qE c lg z w) = fX1_copyLogOf_68 4096 (c.1 2 s) (some (c.1 2 g)) (nI (com (lo s) (lo g))) (nI ((lo s).length - com (lo s) (lo g))) (nI (lo g).length) (nI (com (lo s) (lo g))) (qE c lg1 z1 w) := by
      unfold fX1_copyLogOf
      rw [jr_f (fun q => hsg ((ad_inj hW hg hs).mp q).symm), sO hW _ _ _ _ hs, jr_bd (x_common w h hs hg hl hl2), sR2 hW _ _ _ _ hs, lO hW _ _ _ _ (by omega), lS hW _ _ _ _ (by omega), sR2 hW _ _ _ _ hg, lO hW _ _ _ _ (by omega), lS hW _ _ _ _ (by omega), sR2 hW _ _ _ _ hs, lO hW _ _ _ _ (by omega), lS hW _ _ _ _ (by omega), h.len.2 s hs, h.len.2 g hg, nI_sub hc.1, Int32.sub_eq_add_neg]
      rw [show com (lo s) (lo g) + ((lo s).length - com (lo s) (lo g)) = (lo s).length by omega] at e1
      exact e1
    have hans : (100 : Int32) * nI ((lo s).length - com (lo s) (lo g)) + nI (lo g).length - nI (com (lo s) (lo g)) = nI (100 * ((lo s).length - com (lo s) (lo g)) + ((lo g).length - com (lo s) (lo g))) := by
      rw [n100, nI_add, nI_sub (by omega), show 100 * ((lo s).length - com (lo s) (lo g)) + (lo g).length - com (lo s) (lo g) = 100 * ((lo s).length - com (lo s) (lo g)) + ((lo g).length - com (lo s) (lo g)) by omega]
    obtain ⟨c2, lg2, z2, f1, f2, f3⟩ := x_copy_a (e := (lo g).length) (r := nI ((lo s).length - com (lo s) (lo g))) (y := nI (com (lo s) (lo g))) w hs hg hsg hl2 ((lo g).length - com (lo s) (lo g)) (com (lo s) (lo g)) c lg1 z1 _ e2 (by rw [va_n (Ne.symm hsg)]) (by rw [va_s, List.length_take]; omega) (by omega) 4096 (by omega)
    refine ⟨c2, lg2, z2, by rw [hstep, f1, hans], ?_, f3.mono (by omega) (by omega)⟩
    rw [va_va, va_s, va_n (Ne.symm hsg)] at f2
    exact f2
/-- a server applies what it may -/
theorem x_apply_l {s e b : Nat} {l : List TX} (w : ZZ) (hs : s < 5) (hl : l.length ≤ 40) (hR : RV l) (he : e ≤ l.length) (hbe : b ≤ e) : ∀ n j (lg : LG) (z : ZZ) (nn : NN) (tr : Nat → List ND) (wt : List WT), RX c lg z nn lo tr wt → lo s = l → j + n = e → nn 4 s = j → tr s = rp (l.take j) → b ≤ j → CB nn wt → ∀ k, n < k → ∃ lg' z', fX1_applyUpTo_22 k (c.1 2 s) (some (c.1 12 0)) (nI e) (nI b) (nI j) (qE c lg z w) = some (nI (e - b), qE c lg' z' w) ∧ RX c lg' z' (apl s l n j (nn, wt)).1 lo (va_up tr s (rp (l.take e))) (apl s l n j (nn, wt)).2 ∧ (∀ f, 12 ≤ f → f ≤ 16 → z' f = z f) := by
  intro n
  induction n with
  | zero =>
    intro j lg z nn tr wt h hlo hj hn htr hbj hb k hk
    obtain ⟨k, rfl⟩ : ∃ k', k = k' + 1 := ⟨k - 1, by omega⟩
    refine ⟨lg, z, ?_, ?_, fun _ _ _ => rfl⟩
    · rw [fX1_applyUpTo_22, jr_t (nI_le (by omega) (by omega)), sI6 h.1 _ _ _ _ hs, h.2.1 4 s (by simp [dX, hs]), hn, nI_sub hbj, show j = e by omega]
      rfl
    · rw [show e = j by omega, ← htr, va_self]
      exact h
  | succ n ih =>
    intro j lg z nn tr wt h hlo hj hn htr hbj hb k hk
    obtain ⟨k, rfl⟩ : ∃ k', k = k' + 1 := ⟨k - 1, by omega⟩
    have hjl : j < l.length := by omega
    have hg : l[j]? = some l[j] := List.getElem?_eq_getElem hjl
    obtain ⟨a, b1, b2, b3⟩ := h.xa hs (by rw [hlo]; exact hg)
    have hTV := rp_TV hR j
    obtain ⟨lg1, z1, e1, e2, e9⟩ := x_carry w h (show s < 6 by omega) b2 b3 (by rw [htr]; exact hR j _ hg) (by rw [htr]; exact hTV) (fun nd hnd => by rw [htr] at hnd; have := rp_ver j nd hnd; omega) hb
    rw [htr] at e2
    have e3 := e2.n (k := 4) (i := s) (v := j + 1) (by simp [dX, hs])
    rw [← rp_take hg] at e3
    obtain ⟨lg2, z2, f1, f2, f9⟩ := ih (j + 1) lg1 _ _ _ _ e3 hlo (by omega) (by rw [n2_s]) (by rw [va_s]) (by omega) (hb.cy.n (by decide) (by simp)) k (by omega)
    refine ⟨lg2, z2, ?_, ?_, fun f g1 g2 => by rw [f9 f g1 g2, u2_k (by omega), e9 f g1 g2]⟩
    · rw [fX1_applyUpTo_22, jr_f (nI_ge (by omega) (by omega)), sR1 h.1 _ _ _ _ hs, sR2 h.1 _ _ _ _ hs, lO h.1 _ _ _ _ (by omega), jr_bd (b1 w), xTc _ _ _ _ b2, tO h.1 _ _ _ _ (by omega), jr_bd e1, nI_1, sP6 e2.1 _ _ _ _ _ hs]
      exact f1
    · rw [va_va] at f2
      simp only [apl, hg]
      exact f2
theorem x_apply {s cnt : Nat} (w : ZZ) (h : RX c lg z nn lo tr wt) (hs : s < 5) (hl : (lo s).length ≤ 40) (hR : RV (lo s)) (hcnt : cnt < 2 ^ 31) (htr : tr s = rp ((lo s).take (nn 4 s))) (hb : CB nn wt) (hb4 : nn 4 s ≤ min cnt (lo s).length) : ∃ lg' z', fX1_applyUpTo (c.1 2 s) (nI cnt) (some (c.1 12 0)) (qE c lg z w) = some (nI (min cnt (lo s).length - nn 4 s), qE c lg' z' w) ∧ RX c lg' z' (apl s (lo s) (min cnt (lo s).length - nn 4 s) (nn 4 s) (nn, wt)).1 lo (va_up tr s (rp ((lo s).take (min cnt (lo s).length)))) (apl s (lo s) (min cnt (lo s).length - nn 4 s) (nn 4 s) (nn, wt)).2 ∧ (∀ f, 12 ≤ f → f ≤ 16 → z' f = z f) := by
  have hW := h.1
  obtain ⟨lg1, z1, e1, e2⟩ := x_apply_l (e := min cnt (lo s).length) (b := nn 4 s) w hs hl hR (by omega) hb4 (min cnt (lo s).length - nn 4 s) (nn 4 s) lg z nn tr wt h rfl (by omega) rfl htr (by omega) hb 4096 (by omega)
  refine ⟨lg1, z1, ?_, e2⟩
  unfold fX1_applyUpTo
  rw [sR2 hW _ _ _ _ hs, lO hW _ _ _ _ (by omega), lS hW _ _ _ _ (by omega), h.len.2 s hs, sI6 hW _ _ _ _ hs, h.2.1 4 s (by simp [dX, hs])]
  have e : (if nI (lo s).length < nI cnt then nI (lo s).length else nI cnt) = nI (min cnt (lo s).length) := by
    by_cases q : (lo s).length < cnt
    · rw [if_pos (nI_lt q (by omega)), Nat.min_eq_right (by omega)]
    · rw [if_neg (nI_nlt (by omega) (by omega)), Nat.min_eq_left (by omega)]
  rw [e]
  exact e1
end XV
