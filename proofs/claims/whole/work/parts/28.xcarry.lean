/-! ===== a transaction comes to a tree of the class ===== -/
section TR
/-- facts of trees -/
theorem TV.rest {t rest : List ND} {nd : ND} (h : TV t) (hp : t.Perm (nd :: rest)) : ∀ r, r ∈ rest → r.1 ≠ nd.1 := by
  intro r hr e
  have h1 : ((nd :: rest).map (·.1)).Nodup := (hp.map _).nodup_iff.mp h.1
  rw [List.map_cons, List.nodup_cons] at h1
  exact h1.1 (by rw [← e]; exact List.mem_map_of_mem hr)
theorem wo_rest {rest : List ND} {p : Nat} (h : ∀ r, r ∈ rest → r.1 ≠ p) : wo p rest = rest := by
  unfold wo
  rw [List.filter_eq_self]
  intro a ha
  simp [h a ha]
theorem wo_one {nd : ND} {rest : List ND} (h : ∀ r, r ∈ rest → r.1 ≠ nd.1) : wo nd.1 (nd :: rest) = rest := by
  have : wo nd.1 (nd :: rest) = wo nd.1 rest := by simp [wo]
  rw [this, wo_rest h]
theorem TV.wo {t : List ND} {p : Nat} (h : TV t) : TV (wo p t) := by
  refine ⟨?_, fun nd hn => h.2.1 nd (List.mem_filter.mp hn).1, Nat.le_trans (List.length_filter_le _ _) h.2.2⟩
  exact h.1.sublist (List.filter_sublist.map _)
theorem fo_none {ses : Nat} : ∀ {t : List ND}, fo ses t = none ↔ ∀ nd, nd ∈ t → nd.2.2.2 ≠ ses := by
  intro t
  induction t with
  | nil => simp [fo]
  | cons a t ih =>
    simp only [fo, List.mem_cons, forall_eq_or_imp]
    cases h : fo ses t with
    | none =>
      simp only
      by_cases e : a.2.2.2 = ses
      · simp [e]
      · simp only [if_neg e, true_iff]
        exact ⟨e, ih.mp h⟩
    | some b =>
      simp only
      constructor
      · intro q
        split at q <;> cases q
      · intro q
        exact absurd (ih.mpr q.2) (by rw [h]; simp)
theorem fo_some {ses : Nat} : ∀ {t : List ND} {nd : ND}, fo ses t = some nd → nd ∈ t ∧ nd.2.2.2 = ses ∧ ∀ nd', nd' ∈ t → nd'.2.2.2 = ses → p7 nd.1 ≤ p7 nd'.1 := by
  intro t
  induction t with
  | nil => intro nd h; simp [fo] at h
  | cons a t ih =>
    intro nd h
    simp only [fo] at h
    cases hb : fo ses t with
    | none =>
      rw [hb] at h
      simp only at h
      by_cases e : a.2.2.2 = ses
      · rw [if_pos e] at h
        cases h
        refine ⟨by simp, e, fun nd' hm ho => ?_⟩
        rcases List.mem_cons.mp hm with q | q
        · rw [q]; exact Nat.le_refl _
        · exact absurd ho (fo_none.mp hb nd' q)
      · rw [if_neg e] at h
        cases h
    | some b =>
      rw [hb] at h
      simp only at h
      obtain ⟨i1, i2, i3⟩ := ih hb
      by_cases e : a.2.2.2 = ses ∧ p7 a.1 ≤ p7 b.1
      · rw [if_pos e] at h
        cases h
        refine ⟨by simp, e.1, fun nd' hm ho => ?_⟩
        rcases List.mem_cons.mp hm with q | q
        · rw [q]; exact Nat.le_refl _
        · exact Nat.le_trans e.2 (i3 nd' q ho)
      · rw [if_neg e] at h
        cases h
        refine ⟨by simp [i1], i2, fun nd' hm ho => ?_⟩
        rcases List.mem_cons.mp hm with q | q
        · subst q
          have : ¬ p7 nd'.1 ≤ p7 nd.1 := fun q2 => e ⟨ho, q2⟩
          omega
        · exact i3 nd' q ho
theorem nodup_eq {t : List ND} (h : (t.map (·.1)).Nodup) : ∀ {a b : ND}, a ∈ t → b ∈ t → a.1 = b.1 → a = b := by
  induction t with
  | nil => intro a b ha; cases ha
  | cons x t ih =>
    intro a b ha hb e
    rw [List.map_cons, List.nodup_cons] at h
    rcases List.mem_cons.mp ha with q | q <;> rcases List.mem_cons.mp hb with q2 | q2
    · rw [q, q2]
    · subst q
      exact absurd (by rw [e]; exact List.mem_map_of_mem q2) h.1
    · subst q2
      exact absurd (by rw [← e]; exact List.mem_map_of_mem q) h.1
    · exact ih h.2 q q2 e
theorem fo_uniq {ses : Nat} {t : List ND} {nd : ND} (h : TV t) (h1 : nd ∈ t) (h2 : nd.2.2.2 = ses) (h3 : ∀ nd', nd' ∈ t → nd'.2.2.2 = ses → p7 nd.1 ≤ p7 nd'.1) : fo ses t = some nd := by
  cases hf : fo ses t with
  | none => exact absurd h2 (fo_none.mp hf nd h1)
  | some b =>
    obtain ⟨b1, b2, b3⟩ := fo_some hf
    have e : p7 b.1 = p7 nd.1 := Nat.le_antisymm (b3 nd h1 h2) (h3 b b1 b2)
    rw [nodup_eq h.1 b1 h1 ((p7_inj (h.2.1 b b1).1 (h.2.1 nd h1).1).mp e)]
/-- what closing leaves -/
def cr (ses : Nat) : Nat → List ND → List ND
  | 0, t => t
  | n + 1, t => match fo ses t with
    | none => t
    | some nd => cr ses n (wo nd.1 t)
theorem wo_len {t : List ND} {nd : ND} (h : nd ∈ t) : (wo nd.1 t).length < t.length := by
  unfold wo
  rw [List.length_filter_lt_length_iff_exists]
  exact ⟨nd, h, by simp⟩
theorem cr_all {ses : Nat} : ∀ n {t : List ND}, TV t → t.length ≤ n → cr ses n t = t.filter (fun nd => !(nd.2.2.2 == ses)) := by
  intro n
  induction n with
  | zero =>
    intro t _ h2
    have : t = [] := List.eq_nil_of_length_eq_zero (by omega)
    subst this
    rfl
  | succ n ih =>
    intro t h1 h2
    simp only [cr]
    cases hf : fo ses t with
    | none =>
      simp only
      rw [eq_comm, List.filter_eq_self]
      intro a ha
      simp [fo_none.mp hf a ha]
    | some nd =>
      obtain ⟨b1, b2, b3⟩ := fo_some hf
      simp only
      rw [ih h1.wo (by have := wo_len b1; omega)]
      unfold wo
      rw [List.filter_filter]
      apply List.filter_congr
      intro a ha
      by_cases e : a.1 = nd.1
      · rw [nodup_eq h1.1 ha b1 e, b2]
        simp
      · simp [e]
end TR
section XC
variable {c : CX} {lg : LG} {z w : ZZ} {nn : NN} {lo : Nat → List TX} {tr : Nat → List ND} {wt : List WT}
theorem slot_u {f j q : Nat} {v : Int32} (h : q ≠ j) : slot (u2 z f j v) q = slot z q := by
  have e : ∀ f', u2 z f j v f' q = z f' q := fun f' => by simp [u2, h]
  simp only [slot, e]
theorem sl_full {i : Nat} : ∀ n j, (∀ m, j ≤ m → m < j + n → z 5 (12 * i + m) ≠ -1) → (sl z i j n).length = n := by
  intro n
  induction n with
  | zero => intro j _; rfl
  | succ n ih =>
    intro j h
    rw [sl_s]
    cases hs : slot z (12 * i + j) with
    | none => exact absurd (slot_none hs) (h j (by omega) (by omega))
    | some nd => rw [List.length_cons, ih (j + 1) (fun m h1 h2 => h m (by omega) (by omega))]
theorem slot_of {j : Nat} (h : z 5 j ≠ -1) : slot z j = some (un (z 5 j), un (z 6 j), un (z 7 j), un (z 8 j)) := if_neg h
theorem nI_nm1 {p : Nat} (h : p < 4096) : nI p ≠ -1 := by
  rw [m1_]
  intro e
  have := (nI_inj (by omega) (by omega)).mp e
  omega
/-- looking up a path -/
theorem RX.find {i p : Nat} (w : ZZ) (h : RX c lg z nn lo tr wt) (hi : i < 6) (hp : p < 4096) : ∃ r, fX4_find (c.1 3 i) (nI p) (qE c lg z w) = some (r, qE c lg z w) ∧ ((r = none ∧ ∀ nd, nd ∈ tr i → nd.1 ≠ p) ∨ ∃ m nd, m < 12 ∧ r = some (c.1 5 (12 * i + m)) ∧ slot z (12 * i + m) = some nd ∧ nd ∈ tr i ∧ nd.1 = p) := by
  have hP := h.2.2.2 i hi
  obtain ⟨r, e1, e2⟩ := x_find0 (z := z) (w := w) (x := nI p) h.1 hi
  refine ⟨r, e1, ?_⟩
  rcases e2 with ⟨e2, e3⟩ | ⟨m, e3, e4, e5⟩
  · refine Or.inl ⟨e2, fun nd hn e => ?_⟩
    obtain ⟨m, h1, h2⟩ := slots_mem.mp (hP.mem_iff.mpr hn)
    exact e3 m h1 (by rw [(slot_some h2).1, e])
  · have hs := slot_of (z := z) (j := 12 * i + m) (by rw [e5]; exact nI_nm1 hp)
    refine Or.inr ⟨m, _, e3, e4, hs, hP.mem_iff.mp (slots_mem.mpr ⟨m, e3, hs⟩), ?_⟩
    show un (z 5 (12 * i + m)) = p
    rw [e5, un_nI (by omega)]
/-- slot j of tree i set aside: what is left -/
theorem slots_rest {i m : Nat} {nd : ND} (hm : m < 12) (hs : slot z (12 * i + m) = some nd) : (slots z i).Perm (nd :: slots (u2 z 5 (12 * i + m) (-1)) i) := by
  refine slots_one hm (fun k h1 h2 => ?_) ?_ hs
  · rw [slot_u (by omega)]
  · unfold slot
    rw [u2_s, if_pos rfl]
theorem RX.add {i m p d o : Nat} (h : RX c lg z nn lo tr wt) (hi : i < 6) (hm : m < 12) (hs : slot z (12 * i + m) = none) (hp : p < 4096) (hd : d < 2 ^ 32) (ho : o < 2 ^ 32) : RX c lg (u2 (u2 (u2 (u2 z 5 (12 * i + m) (nI p)) 6 (12 * i + m) (nI d)) 7 (12 * i + m) (nI 0)) 8 (12 * i + m) (nI o)) nn lo (va_up tr i ((p, d, 0, o) :: tr i)) wt := by
  refine h.tree (fun f hf => ?_) (fun i' h1 h2 k h3 => ?_) ?_
  · rw [u2_k (by omega), u2_k (by omega), u2_k (by omega), u2_k (by omega)]
  · rw [slot_u (by omega), slot_u (by omega), slot_u (by omega), slot_u (by omega)]
  · refine (slots_one (z := z) (nd := (p, d, 0, o)) hm (fun k h1 h2 => ?_) hs ?_).trans ((h.2.2.2 i hi).cons _)
    · rw [slot_u (by omega), slot_u (by omega), slot_u (by omega), slot_u (by omega)]
    · unfold slot
      have e5 : u2 (u2 (u2 (u2 z 5 (12 * i + m) (nI p)) 6 (12 * i + m) (nI d)) 7 (12 * i + m) (nI 0)) 8 (12 * i + m) (nI o) 5 (12 * i + m) = nI p := by simp [u2]
      have e6 : u2 (u2 (u2 (u2 z 5 (12 * i + m) (nI p)) 6 (12 * i + m) (nI d)) 7 (12 * i + m) (nI 0)) 8 (12 * i + m) (nI o) 6 (12 * i + m) = nI d := by simp [u2]
      have e7 : u2 (u2 (u2 (u2 z 5 (12 * i + m) (nI p)) 6 (12 * i + m) (nI d)) 7 (12 * i + m) (nI 0)) 8 (12 * i + m) (nI o) 7 (12 * i + m) = nI 0 := by simp [u2]
      have e8 : u2 (u2 (u2 (u2 z 5 (12 * i + m) (nI p)) 6 (12 * i + m) (nI d)) 7 (12 * i + m) (nI 0)) 8 (12 * i + m) (nI o) 8 (12 * i + m) = nI o := by simp [u2]
      rw [e5, e6, e7, e8, if_neg (nI_nm1 hp), un_nI (by omega), un_nI hd, un_nI (by omega), un_nI ho]
theorem RX.chg {i m d : Nat} {nd : ND} (h : RX c lg z nn lo tr wt) (hi : i < 6) (hm : m < 12) (hs : slot z (12 * i + m) = some nd) (hd : d < 2 ^ 32) (hv : nd.2.2.1 + 1 < 2 ^ 32) (ht : TV (tr i)) : RX c lg (u2 (u2 z 6 (12 * i + m) (nI d)) 7 (12 * i + m) (nI (nd.2.2.1 + 1))) nn lo (va_up tr i ((tr i).map (fun n => if n.1 = nd.1 then (n.1, d, n.2.2.1 + 1, n.2.2.2) else n))) wt := by
  have hP := h.2.2.2 i hi
  refine h.tree (fun f hf => ?_) (fun i' h1 h2 k h3 => ?_) ?_
  · rw [u2_k (by omega), u2_k (by omega)]
  · rw [slot_u (by omega), slot_u (by omega)]
  · have hr := slots_rest hm hs
    have hpr := hP.symm.trans hr
    have hne := ht.rest hpr
    refine (slots_one (z := u2 z 5 (12 * i + m) (-1)) (nd := (nd.1, d, nd.2.2.1 + 1, nd.2.2.2)) hm (fun k h1 h2 => ?_) ?_ ?_).trans ?_
    · rw [slot_u (by omega), slot_u (by omega), slot_u (by omega)]
    · unfold slot
      rw [u2_s, if_pos rfl]
    · obtain ⟨s5, s6, s7, s8, s9⟩ := slot_some hs
      unfold slot
      have e5 : u2 (u2 z 6 (12 * i + m) (nI d)) 7 (12 * i + m) (nI (nd.2.2.1 + 1)) 5 (12 * i + m) = z 5 (12 * i + m) := by simp [u2]
      have e6 : u2 (u2 z 6 (12 * i + m) (nI d)) 7 (12 * i + m) (nI (nd.2.2.1 + 1)) 6 (12 * i + m) = nI d := by simp [u2]
      have e7 : u2 (u2 z 6 (12 * i + m) (nI d)) 7 (12 * i + m) (nI (nd.2.2.1 + 1)) 7 (12 * i + m) = nI (nd.2.2.1 + 1) := by simp [u2]
      have e8 : u2 (u2 z 6 (12 * i + m) (nI d)) 7 (12 * i + m) (nI (nd.2.2.1 + 1)) 8 (12 * i + m) = z 8 (12 * i + m) := by simp [u2]
      rw [e5, e6, e7, e8, if_neg s9, un_nI hd, un_nI hv]
      unfold slot at hs
      rw [if_neg s9] at hs
      cases hs
      rfl
    · refine List.Perm.trans ?_ (hpr.map _).symm
      rw [List.map_cons, if_pos rfl]
      refine List.Perm.cons _ ?_
      have e : (slots (u2 z 5 (12 * i + m) (-1)) i).map (fun n => if n.1 = nd.1 then (n.1, d, n.2.2.1 + 1, n.2.2.2) else n) = slots (u2 z 5 (12 * i + m) (-1)) i := by
        conv => rhs; rw [← List.map_id (slots (u2 z 5 (12 * i + m) (-1)) i)]
        apply List.map_congr_left
        intro a ha
        rw [if_neg (hne a ha)]
        rfl
      rw [e]
theorem RX.rem {i m : Nat} {nd : ND} (h : RX c lg z nn lo tr wt) (hi : i < 6) (hm : m < 12) (hs : slot z (12 * i + m) = some nd) (ht : TV (tr i)) : RX c lg (u2 z 5 (12 * i + m) (-1)) nn lo (va_up tr i (wo nd.1 (tr i))) wt := by
  have hP := h.2.2.2 i hi
  refine h.tree (fun f hf => u2_k (by omega)) (fun i' h1 h2 k h3 => slot_u (by omega)) ?_
  have hpr := hP.symm.trans (slots_rest hm hs)
  have hne := ht.rest hpr
  have e : (wo nd.1 (tr i)).Perm (wo nd.1 (nd :: slots (u2 z 5 (12 * i + m) (-1)) i)) := hpr.filter _
  rw [wo_one hne] at e
  exact e.symm
theorem x_release {j : Nat} (hW : qW c lg) (hj : j < 72) : fX0_release (c.1 5 j) (qE c lg z w) = some (z 5 j, qE c lg (u2 z 5 j (-1)) w) := by
  unfold fX0_release
  rw [nI0_ hW _ _ _ _ hj, nP0 hW _ _ _ _ _ hj]
  rfl
/-- bounds under which a transaction is carried out -/
def CB (nn : NN) (wt : List WT) : Prop := WV nn wt ∧ ∀ k, k < 6 → nn 10 k + wt.length < 100000
theorem fe_len {s p x : Nat} : ∀ (m : List WT) (nn : NN) (k : Nat), fe s p x m nn 10 k + (wf s p m).length ≤ nn 10 k + m.length := by
  intro m
  induction m with
  | nil => intro nn k; simp [fe, wf]
  | cons v m ih =>
    intro nn k
    simp only [fe]
    by_cases hm : v.1 = s ∧ v.2.2 = p
    · rw [if_pos hm]
      have e : wf s p (v :: m) = wf s p m := by simp [wf, hm.1, hm.2]
      rw [e, List.length_cons]
      have := ih (n2 (n2 nn 11 (8 * v.2.1 + nn 10 v.2.1 % 8) x) 10 v.2.1 (nn 10 v.2.1 + 1)) k
      by_cases hk : k = v.2.1
      · subst hk
        rw [n2_s] at this
        omega
      · rw [n2_i hk, n2_k (by decide)] at this
        omega
    · rw [if_neg hm]
      have e : wf s p (v :: m) = v :: wf s p m := by
        have : (!(v.1 == s && v.2.2 == p)) = true := by
          simp only [Bool.not_eq_true', Bool.and_eq_false_iff, beq_eq_false_iff_ne]
          by_cases q : v.1 = s
          · exact Or.inr (fun q2 => hm ⟨q, q2⟩)
          · exact Or.inl q
        exact List.filter_cons_of_pos (p := fun v : WT => !(v.1 == s && v.2.2 == p)) this
      rw [e, List.length_cons, List.length_cons]
      have := ih nn k
      omega
theorem CB.fe {s p x : Nat} (h : CB nn wt) : CB (fe s p x wt nn) (wf s p wt) := by
  refine ⟨⟨Nat.le_trans (List.length_filter_le _ _) h.1.1, fun v hv => ?_⟩, fun k hk => ?_⟩
  · rw [fe_05 _ _ _ _ (by decide) (by decide)]
    exact h.1.2 v (List.mem_filter.mp hv).1
  · have := fe_len (s := s) (p := p) (x := x) wt nn k
    have := h.2 k hk
    omega
/-- firing, with the bounds kept -/
theorem x_fireB {s p id kd : Nat} (w : ZZ) (h : RX c lg z nn lo tr wt) (hs : s ≤ 5) (hp : p < 4096) (hb : CB nn wt) : ∃ lg' z', fX6_fire (c.1 12 0) (sv s) (nI p) (nI kd) (nI id) (qE c lg z w) = some ((), qE c lg' z' w) ∧ RX c lg' z' (fe s p (10 * id + kd) wt nn) lo tr (wf s p wt) ∧ (∀ f, 12 ≤ f → f ≤ 16 → z' f = z f) :=
  x_fire h hs hp hb.1 (fun k hk => by have := hb.2 k hk; omega)
theorem x_close {i a : Nat} {x : TX} (hi : i < 6) (t : c.2.1 a = some (8, a)) (hx4 : x.2.2.2.2 < 2 ^ 32) : ∀ n j (lg : LG) (z : ZZ) (nn : NN) (wt : List WT) (u : List ND), j + n = 12 → RX c lg z nn lo (va_up tr i u) wt → txof z a = x → TV u → CB nn wt → ∀ k, n < k → ∃ lg' z', fX4_removeNodesOfSession_2 k (c.1 3 i) (some a) (some (c.1 12 0)) (nI j) (qE c lg z w) = some ((), qE c lg' z' w) ∧ RX c lg' z' (fes i (10 * x.1 + 2) (cs x.2.2.2.2 n u) (nn, wt)).1 lo (va_up tr i (cr x.2.2.2.2 n u)) (fes i (10 * x.1 + 2) (cs x.2.2.2.2 n u) (nn, wt)).2 ∧ (∀ f, 12 ≤ f → f ≤ 16 → z' f = z f) := by
  intro n
  induction n with
  | zero =>
    intro j lg z nn wt u hj h hx hu hb k hk
    obtain ⟨k, rfl⟩ : ∃ k', k = k' + 1 := ⟨k - 1, by omega⟩
    refine ⟨lg, z, ?_, h, fun _ _ _ => rfl⟩
    rw [fX4_removeNodesOfSession_2, tR1 h.1 _ _ _ _ hi, tL h.1 _ _ _ _ hi, jr_t (nI_le (by omega) (by omega))]
    rfl
  | succ n ih =>
    intro j lg z nn wt u hj h hx hu hb k hk
    obtain ⟨k, rfl⟩ : ∃ k', k = k' + 1 := ⟨k - 1, by omega⟩
    have hW := h.1
    have hP := h.2.2.2 i hi
    have eu : va_up tr i u i = u := by simp [va_up]
    rw [eu] at hP
    obtain ⟨t0, t1, t2, t3, t4⟩ := txof_e hx
    obtain ⟨r, e1, e2⟩ := x_first (w := w) hW hi hx4 (fun nd hn => by have q := hu.2.1 nd (hP.mem_iff.mp hn); exact ⟨okp_lt q.1, q.2.2⟩)
    rw [fX4_removeNodesOfSession_2, tR1 hW _ _ _ _ hi, tL hW _ _ _ _ hi, jr_f (nI_ge (by omega) (by omega)), xT4 _ _ _ _ t, tO hW _ _ _ _ hi, t4, jr_bd e1]
    simp only [cs, cr]
    rcases e2 with ⟨r1, r2⟩ | ⟨m, nd, r1, r2, r3, r4, r5⟩
    · have hf : fo x.2.2.2.2 u = none := fo_none.mpr (fun nd hn => by
        obtain ⟨m, q1, q2⟩ := slots_mem.mp (hP.mem_iff.mpr hn)
        exact r2 m nd q1 q2)
      rw [hf]
      rw [jr_t r1]
      exact ⟨lg, z, rfl, h, fun _ _ _ => rfl⟩
    · have hnm : nd ∈ u := hP.mem_iff.mp (slots_mem.mpr ⟨m, r1, r3⟩)
      have hok := (hu.2.1 nd hnm).1
      have hlt := okp_lt hok
      have hf : fo x.2.2.2.2 u = some nd := fo_uniq hu hnm r4 (fun nd' hn ho => by
        obtain ⟨m', q1, q2⟩ := slots_mem.mp (hP.mem_iff.mpr hn)
        have q3 := r5 m' nd' q1 q2 ho
        have q4 := rk_lt (hu.2.1 nd' hn).1 hok
        by_cases q5 : p7 nd.1 ≤ p7 nd'.1
        · exact q5
        · have := q4.mpr (by omega)
          omega)
      rw [hf]
      simp only
      have hrem := h.rem hi r1 r3 (by rw [eu]; exact hu)
      rw [eu] at hrem
      have e3 : va_up (va_up tr i u) i (wo nd.1 u) = va_up tr i (wo nd.1 u) := by
        funext q
        by_cases hq : q = i <;> simp [va_up, hq]
      rw [e3] at hrem
      have hj72 : 12 * i + m < 72 := by omega
      rw [jr_f (by rw [r2]; simp), tI0 hW _ _ _ _ hi, r2, nO hW _ _ _ _ hj72, jr_bd (x_release hW hj72), xT0 _ _ _ _ t, u2_k (show (12 : Nat) ≠ 5 by decide), t0, (slot_some r3).1, yO hW]
      obtain ⟨lg1, z1, f1, f2, f3⟩ := x_fireB (s := i) (p := nd.1) (id := x.1) (kd := 2) w hrem (by omega) hlt hb
      have f1' : fX6_fire (c.1 12 0) (if i = 5 then -1 else nI i) (nI nd.1) 2 (nI x.1) (qE c lg (u2 z 5 (12 * i + m) (-1)) w) = some ((), qE c lg1 z1 w) := f1
      rw [jr_bd f1', nI_1]
      have hx1 : txof z1 a = x := by
        rw [txof_k (z := z) (fun f q1 q2 => by rw [f3 f q1 q2, u2_k (by omega)])]
        exact hx
      obtain ⟨lg2, z2, g1, g2, g3⟩ := ih (j + 1) lg1 z1 _ _ (wo nd.1 u) (by omega) f2 hx1 hu.wo hb.fe k (by omega)
      exact ⟨lg2, z2, g1, g2, fun f q1 q2 => by rw [g3 f q1 q2, f3 f q1 q2, u2_k (by omega)]⟩
theorem fes_1 {s p x : Nat} (q : NN × List WT) : fes s x [p] q = (fe s p x q.2 q.1, wf s p q.2) := rfl
/-- a transaction is carried out on tree i -/
theorem x_carry {i a : Nat} {x : TX} (w : ZZ) (h : RX c lg z nn lo tr wt) (hi : i < 6) (t : c.2.1 a = some (8, a)) (hx : txof z a = x) (hv : tv x (tr i)) (hu : TV (tr i)) (hvr : ∀ nd, nd ∈ tr i → nd.2.2.1 < 1000) (hb : CB nn wt) : ∃ lg' z', fX4_carryOut (c.1 3 i) (some a) (some (c.1 12 0)) (qE c lg z w) = some ((), qE c lg' z' w) ∧ RX c lg' z' (cy i x (tr i) (nn, wt)).1 lo (va_up tr i (ct x (tr i))) (cy i x (tr i) (nn, wt)).2 ∧ (∀ f, 12 ≤ f → f ≤ 16 → z' f = z f) := by
  have hW := h.1
  obtain ⟨t0, t1, t2, t3, t4⟩ := txof_e hx
  obtain ⟨v1, v2, v3, v4, v5, v6, v7⟩ := hv
  have hpl := okp_lt v2
  have hd : x.2.2.2.1 < 2 ^ 32 := by rw [← hx]; exact un_lt _
  unfold fX4_carryOut
  rw [xT1 _ _ _ _ t, t1]
  obtain ⟨id, kind, p, d, o⟩ := x
  simp only at *
  match kind, v4 with
  | 0, _ =>
    rw [jr_t (show nI 0 = 0 from rfl), tO hW _ _ _ _ hi]
    obtain ⟨q1, q2, q3⟩ := v5 rfl
    obtain ⟨r, e1, e2⟩ := x_find0 (z := z) (w := w) (x := -1) hW hi
    have hex : ∃ m, m < 12 ∧ r = some (c.1 5 (12 * i + m)) ∧ z 5 (12 * i + m) = -1 := by
      rcases e2 with ⟨-, e3⟩ | e3
      · have hl := sl_full (z := z) (i := i) 12 0 (fun m _ h2 => e3 m (by omega))
        have := (h.2.2.2 i hi).length_eq
        unfold slots at this
        omega
      · exact e3
    obtain ⟨m, m1, m2, m3⟩ := hex
    have hj72 : 12 * i + m < 72 := by omega
    have hadd := h.add (p := p) (d := d) (o := o) hi m1 (by unfold slot; rw [if_pos m3]) hpl hd v3
    obtain ⟨lg1, z1, f1, f2, f3⟩ := x_fireB (s := i) (p := p) (id := id) (kd := 0) w hadd (by omega) hpl hb
    refine ⟨lg1, z1, ?_, f2, fun f q1 q2 => by rw [f3 f q1 q2, u2_k (by omega), u2_k (by omega), u2_k (by omega), u2_k (by omega)]⟩
    have hadd1 : fX4_addNode (c.1 3 i) (some a) (some (c.1 12 0)) (qE c lg z w) = some ((), qE c lg1 z1 w) := by
      unfold fX4_addNode
      rw [tO hW _ _ _ _ hi, jr_bd e1, m2, jr_f (by simp), xT2 _ _ _ _ t, nP0 hW _ _ _ _ _ hj72, xT3 _ _ _ _ t, nP1 hW _ _ _ _ _ hj72, nP2 hW _ _ _ _ _ hj72, xT4 _ _ _ _ t, nP3 hW _ _ _ _ _ hj72, tI0 hW _ _ _ _ hi, nI0_ hW _ _ _ _ hj72, xT0 _ _ _ _ t, yO hW]
      simp only [u2_k (show (12 : Nat) ≠ 5 by decide), u2_k (show (12 : Nat) ≠ 6 by decide), u2_k (show (12 : Nat) ≠ 7 by decide), u2_k (show (12 : Nat) ≠ 8 by decide), u2_k (show (15 : Nat) ≠ 5 by decide), u2_k (show (16 : Nat) ≠ 5 by decide), u2_k (show (16 : Nat) ≠ 6 by decide), u2_k (show (16 : Nat) ≠ 7 by decide), u2_k (show (5 : Nat) ≠ 8 by decide), u2_k (show (5 : Nat) ≠ 7 by decide), u2_k (show (5 : Nat) ≠ 6 by decide), u2_s, t0, t2, t3, t4]
      have f1' : fX6_fire (c.1 12 0) (if i = 5 then -1 else nI i) (nI p) 0 (nI id) (qE c lg (u2 (u2 (u2 (u2 z 5 (12 * i + m) (nI p)) 6 (12 * i + m) (nI d)) 7 (12 * i + m) 0) 8 (12 * i + m) (nI o)) w) = some ((), qE c lg1 z1 w) := f1
      rw [jr_bd f1']
      rfl
    rw [jr_bd hadd1]
    rfl
  | 1, _ =>
    rw [jr_f (show ¬ nI 1 = 0 by decide +kernel), jr_t (show nI 1 = 1 from rfl), tO hW _ _ _ _ hi]
    obtain ⟨nd0, n1, n2⟩ := v6 (Or.inl rfl)
    obtain ⟨r, e1, e2⟩ := h.find (p := p) w hi hpl
    rcases e2 with ⟨-, e3⟩ | ⟨m, nd, m1, m2, m3, m4, m5⟩
    · exact absurd n2 (e3 nd0 n1)
    have hj72 : 12 * i + m < 72 := by omega
    have hver := hvr nd m4
    have hchg := h.chg (d := d) hi m1 m3 hd (by omega) hu
    obtain ⟨lg1, z1, f1, f2, f3⟩ := x_fireB (s := i) (p := p) (id := id) (kd := 1) w hchg (by omega) hpl hb
    rw [m5] at f2
    refine ⟨lg1, z1, ?_, f2, fun f q1 q2 => by rw [f3 f q1 q2, u2_k (by omega), u2_k (by omega)]⟩
    have hadd1 : fX4_changeNode (c.1 3 i) (some a) (some (c.1 12 0)) (qE c lg z w) = some ((), qE c lg1 z1 w) := by
      unfold fX4_changeNode
      rw [xT2 _ _ _ _ t, t2, tO hW _ _ _ _ hi, jr_bd e1, m2, jr_f (by simp), xT3 _ _ _ _ t, nP1 hW _ _ _ _ _ hj72, nI2_ hW _ _ _ _ hj72, nP2 hW _ _ _ _ _ hj72, tI0 hW _ _ _ _ hi, nI0_ hW _ _ _ _ hj72, xT0 _ _ _ _ t, yO hW]
      simp only [u2_k (show (12 : Nat) ≠ 6 by decide), u2_k (show (12 : Nat) ≠ 7 by decide), u2_k (show (5 : Nat) ≠ 7 by decide), u2_k (show (5 : Nat) ≠ 6 by decide), u2_k (show (7 : Nat) ≠ 6 by decide), t0, t3, (slot_some m3).1, (slot_some m3).2.2.1, nI_1, m5]
      have f1' : fX6_fire (c.1 12 0) (if i = 5 then -1 else nI i) (nI p) 1 (nI id) (qE c lg (u2 (u2 z 6 (12 * i + m) (nI d)) 7 (12 * i + m) (nI (nd.2.2.1 + 1))) w) = some ((), qE c lg1 z1 w) := f1
      rw [jr_bd f1']
      rfl
    rw [jr_bd hadd1]
    rfl
  | 2, _ =>
    rw [jr_f (show ¬ nI 2 = 0 by decide +kernel), jr_f (show ¬ nI 2 = 1 by decide +kernel), jr_t (show nI 2 = 2 from rfl), tO hW _ _ _ _ hi]
    obtain ⟨nd0, n1, n2⟩ := v6 (Or.inr rfl)
    obtain ⟨r, e1, e2⟩ := h.find (p := p) w hi hpl
    rcases e2 with ⟨-, e3⟩ | ⟨m, nd, m1, m2, m3, m4, m5⟩
    · exact absurd n2 (e3 nd0 n1)
    have hj72 : 12 * i + m < 72 := by omega
    have hrem := h.rem hi m1 m3 hu
    obtain ⟨lg1, z1, f1, f2, f3⟩ := x_fireB (s := i) (p := p) (id := id) (kd := 2) w hrem (by omega) hpl hb
    rw [m5] at f2
    refine ⟨lg1, z1, ?_, f2, fun f q1 q2 => by rw [f3 f q1 q2, u2_k (by omega)]⟩
    have hadd1 : fX4_removeNode (c.1 3 i) (some a) (some (c.1 12 0)) (qE c lg z w) = some ((), qE c lg1 z1 w) := by
      unfold fX4_removeNode
      rw [xT2 _ _ _ _ t, t2, tO hW _ _ _ _ hi, jr_bd e1, m2, jr_f (by simp), tI0 hW _ _ _ _ hi, nO hW _ _ _ _ hj72, jr_bd (x_release hW hj72), xT0 _ _ _ _ t, yO hW, u2_k (show (12 : Nat) ≠ 5 by decide), t0, (slot_some m3).1, m5]
      have f1' : fX6_fire (c.1 12 0) (if i = 5 then -1 else nI i) (nI p) 2 (nI id) (qE c lg (u2 z 5 (12 * i + m) (-1)) w) = some ((), qE c lg1 z1 w) := f1
      rw [jr_bd f1']
      rfl
    rw [jr_bd hadd1]
    rfl
  | 3, _ =>
    rw [jr_f (show ¬ nI 3 = 0 by decide +kernel), jr_f (show ¬ nI 3 = 1 by decide +kernel), jr_f (show ¬ nI 3 = 2 by decide +kernel), tO hW _ _ _ _ hi]
    have hself : va_up tr i (tr i) = tr := by
      funext q
      by_cases hq : q = i
      · subst hq; simp [va_up]
      · simp [va_up, hq]
    obtain ⟨lg1, z1, f1, f2, f3⟩ := x_close (w := w) (tr := tr) (lo := lo) (x := (id, 3, p, d, o)) hi t v3 12 0 lg z nn wt (tr i) (by omega) (by rw [hself]; exact h) hx hu hb 4096 (by omega)
    refine ⟨lg1, z1, ?_, ?_, f3⟩
    · have f1' : fX4_removeNodesOfSession (c.1 3 i) (some a) (some (c.1 12 0)) (qE c lg z w) = some ((), qE c lg1 z1 w) := f1
      rw [jr_bd f1']
      rfl
    · have e := cr_all (ses := o) 12 hu hu.2.2
      simp only at f2
      rw [e] at f2
      exact f2
end XC
