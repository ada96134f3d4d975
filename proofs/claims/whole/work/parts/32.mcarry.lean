/-! ===== the reference carries out, applies, becomes like ===== -/
section MC
variable {c : CX} {lg : LG} {z w : ZZ} {nn : NN} {wt : List WT}
def fMB (r : List ND) (i ses j : Nat) (v : Int32) : Prop := (v = -8 ∧ ∀ m nd, m < j → r[m]? = some nd → nd.2.2.2 ≠ ses) ∨ ∃ m nd, m < j ∧ v = nI (12 * i + m) ∧ r[m]? = some nd ∧ nd.2.2.2 = ses ∧ ∀ m' nd', m' < j → r[m']? = some nd' → nd'.2.2.2 = ses → p7 nd.1 ≤ p7 nd'.1
theorem m_first_l {i ses : Nat} {r : List ND} (hW : qW c lg) (h : MR w i r) (hi : i < 6) (hl : r.length ≤ 12) (hses : ses < 2 ^ 32) (hr : ∀ nd, nd ∈ r → okp nd.1 = true ∧ nd.2.2.2 < 2 ^ 32) : ∀ n j v, j + n = r.length → fMB r i ses j v → ∀ k, n < k → ∃ v', fX8_firstOf_9 k (c.1 20 0) (nI i) (nI ses) v (nI (12 * i + j)) (qE c lg z w) = some (v', qE c lg z w) ∧ fMB r i ses r.length v' := by
  intro n
  induction n with
  | zero =>
    intro j v hj hB k hk
    obtain ⟨k, rfl⟩ : ∃ k', k = k' + 1 := ⟨k - 1, by omega⟩
    rw [fX8_firstOf_9, mR15 hW, mG15 hW _ _ _ _ hi, h.1, n12, nI_add, jr_t (nI_le (by omega) (by omega))]
    exact ⟨v, rfl, by rw [show r.length = j by omega]; exact hB⟩
  | succ n ih =>
    intro j v hj hB k hk
    obtain ⟨k, rfl⟩ : ∃ k', k = k' + 1 := ⟨k - 1, by omega⟩
    have hjl : j < r.length := by omega
    have hg : r[j]? = some r[j] := List.getElem?_eq_getElem hjl
    obtain ⟨hok, hob⟩ := hr r[j] (List.getElem_mem hjl)
    obtain ⟨q1, q2, q3, q4⟩ := h.2 j _ hg
    have b1 := (ok_all hok).2.1
    rw [fX8_firstOf_9, mR15 hW, mG15 hW _ _ _ _ hi, h.1, n12, nI_add, jr_f (nI_ge (by omega) (by omega)), mR19 hW, mG19 hW _ _ _ _ (by omega), q4, nI_1, show 12 * i + j + 1 = 12 * i + (j + 1) by omega]
    have newB : (∀ m' nd', m' < j → r[m']? = some nd' → nd'.2.2.2 = ses → p7 r[j].1 ≤ p7 nd'.1) → r[j].2.2.2 = ses → fMB r i ses (j + 1) (nI (12 * i + j)) := by
      intro hq ho
      refine Or.inr ⟨j, r[j], by omega, rfl, hg, ho, fun m' nd' h3 h4 h5 => ?_⟩
      by_cases hm : m' = j
      · subst hm
        rw [hg] at h4
        cases h4
        exact Nat.le_refl _
      · exact hq m' nd' (by omega) h4 h5
    by_cases ho : r[j].2.2.2 = ses
    · rw [jr_t (by rw [ho])]
      rcases id hB with ⟨b2, b3⟩ | ⟨m, nd, b2, b3, b4, b5, b6⟩
      · rw [jr_t b2]
        exact ih (j + 1) _ (by omega) (newB (fun m' nd' h3 h4 h5 => absurd h5 (b3 m' nd' h3 h4)) ho) k (by omega)
      · have hmr := hr nd (List.mem_of_getElem? b4)
        have b7 := (ok_all hmr.1).2.1
        have hmn : v ≠ -8 := by
          rw [b3, m8_]
          intro e
          have := (nI_inj (by omega) (by omega)).mp e
          omega
        rw [jr_f hmn, mR16 hW, mG16 hW _ _ _ _ (by omega), q1, mR16 hW, b3, mG16 hW _ _ _ _ (by omega), (h.2 m _ b4).1]
        by_cases hle : p7 nd.1 ≤ p7 r[j].1
        · rw [jr_t (nI_le hle (by omega))]
          refine ih (j + 1) _ (by omega) (Or.inr ⟨m, nd, by omega, rfl, b4, b5, fun m' nd' h3 h4 h5 => ?_⟩) k (by omega)
          by_cases hm : m' = j
          · subst hm
            rw [hg] at h4
            cases h4
            exact hle
          · exact b6 m' nd' (by omega) h4 h5
        · rw [jr_f (nI_ge (by omega) (by omega))]
          exact ih (j + 1) _ (by omega) (newB (fun m' nd' h3 h4 h5 => Nat.le_trans (by omega) (b6 m' nd' h3 h4 h5)) ho) k (by omega)
    · rw [jr_f (fun e => ho ((nI_inj hob hses).mp e))]
      refine ih (j + 1) _ (by omega) ?_ k (by omega)
      rcases hB with ⟨b2, b3⟩ | ⟨m, nd, b2, b3, b4, b5, b6⟩
      · refine Or.inl ⟨b2, fun m nd h3 h4 => ?_⟩
        by_cases hm : m = j
        · subst hm
          rw [hg] at h4
          cases h4
          exact ho
        · exact b3 m nd (by omega) h4
      · refine Or.inr ⟨m, nd, by omega, b3, b4, b5, fun m' nd' h3 h4 h5 => ?_⟩
        by_cases hm : m' = j
        · subst hm
          rw [hg] at h4
          cases h4
          exact absurd h5 ho
        · exact b6 m' nd' (by omega) h4 h5
theorem m_first {i ses : Nat} {r t : List ND} (hW : qW c lg) (h : MR w i r) (hp : r.Perm t) (ht : TV t) (hi : i < 6) (hses : ses < 2 ^ 32) : ∃ v, fX8_firstOf (c.1 20 0) (nI i) (nI ses) (qE c lg z w) = some (v, qE c lg z w) ∧ ((v = -8 ∧ fo ses t = none) ∨ ∃ m nd, v = nI (12 * i + m) ∧ r[m]? = some nd ∧ fo ses t = some nd) := by
  have hl : r.length ≤ 12 := by rw [hp.length_eq]; exact ht.2.2
  obtain ⟨v, e1, e2⟩ := m_first_l (z := z) hW h hi hl hses (fun nd hn => by have q := ht.2.1 nd (hp.mem_iff.mp hn); exact ⟨q.1, q.2.2⟩) r.length 0 (-8) (by omega) (Or.inl ⟨rfl, fun m nd h => by omega⟩) 4096 (by omega)
  refine ⟨v, ?_, ?_⟩
  · unfold fX8_firstOf
    rw [n12]
    exact e1
  · rcases e2 with ⟨b1, b2⟩ | ⟨m, nd, b1, b2, b3, b4, b5⟩
    · refine Or.inl ⟨b1, fo_none.mpr (fun nd hn => ?_)⟩
      obtain ⟨m, hm⟩ := List.getElem?_of_mem (hp.mem_iff.mpr hn)
      exact b2 m nd (List.getElem?_eq_some_iff.mp hm).1 hm
    · refine Or.inr ⟨m, nd, b2, b3, fo_uniq ht (hp.mem_iff.mp (List.mem_of_getElem? b3)) b4 (fun nd' hn ho => ?_)⟩
      obtain ⟨m', hm⟩ := List.getElem?_of_mem (hp.mem_iff.mpr hn)
      exact b5 m' nd' (List.getElem?_eq_some_iff.mp hm).1 hm ho
/-- where a transaction lies -/
def MX (w : ZZ) (a : Nat) (x : TX) : Prop := w 10 a = nI x.1 ∧ w 11 a = nI x.2.1 ∧ w 12 a = nI (p7 x.2.2.1) ∧ w 13 a = nI x.2.2.2.1 ∧ w 14 a = nI x.2.2.2.2
theorem MX.fr {w w' : ZZ} {a : Nat} {x : TX} (h : MX w a x) (hk : ∀ f, 10 ≤ f → f ≤ 14 → w' f = w f) : MX w' a x := by
  unfold MX
  rw [hk 10 (by omega) (by omega), hk 11 (by omega) (by omega), hk 12 (by omega) (by omega), hk 13 (by omega) (by omega), hk 14 (by omega) (by omega)]
  exact h
theorem MF.fires {w w' : ZZ} {i : Nat} (h : ∀ f, ¬ (23 ≤ f ∧ f ≤ 28) → w' f = w f) : MF w w' i :=
  ⟨fun f _ h2 => h f h2, fun j _ => by rw [h 15 (by omega)], fun f j h1 h2 _ => by rw [h f (by omega)]⟩
theorem m_close {i a : Nat} {x : TX} (hW : qW c lg) (hi : i < 6) (ha : a < 200) (hx4 : x.2.2.2.2 < 2 ^ 32) : ∀ n (w : ZZ) (nn : NN) (wt : List WT) (r t : List ND) (v : Int32), t.length ≤ n → MR w i r → r.Perm t → TV t → MX w a x → MW w wt → ME w nn → CB nn wt → ((v = -8 ∧ fo x.2.2.2.2 t = none) ∨ ∃ m nd, v = nI (12 * i + m) ∧ r[m]? = some nd ∧ fo x.2.2.2.2 t = some nd) → ∀ k, n < k → ∃ w', fX8_applies_205 k (c.1 20 0) (nI i) (nI a) v (qE c lg z w) = some ((), qE c lg z w') ∧ MT w' i (cr x.2.2.2.2 n t) ∧ MW w' (fes i (10 * x.1 + 2) (cs x.2.2.2.2 n t) (nn, wt)).2 ∧ ME w' (fes i (10 * x.1 + 2) (cs x.2.2.2.2 n t) (nn, wt)).1 ∧ MF w w' i := by
  intro n
  induction n with
  | zero =>
    intro w nn wt r t v hn hR hp ht hX hw hE hb hv k hk
    obtain ⟨k, rfl⟩ : ∃ k', k = k' + 1 := ⟨k - 1, by omega⟩
    have e : t = [] := List.eq_nil_of_length_eq_zero (by omega)
    subst e
    rcases hv with ⟨v1, v2⟩ | ⟨m, nd, v1, v2, v3⟩
    · refine ⟨w, ?_, ⟨r, hp, hR⟩, hw, hE, MF.rfl⟩
      rw [fX8_applies_205, jr_t v1]
      rfl
    · simp [fo] at v3
  | succ n ih =>
    intro w nn wt r t v hn hR hp ht hX hw hE hb hv k hk
    obtain ⟨k, rfl⟩ : ∃ k', k = k' + 1 := ⟨k - 1, by omega⟩
    have hrl : r.length ≤ 12 := by rw [hp.length_eq]; exact ht.2.2
    simp only [cs, cr]
    rcases hv with ⟨v1, v2⟩ | ⟨m, nd, v1, v2, v3⟩
    · rw [v2]
      refine ⟨w, ?_, ⟨r, hp, hR⟩, hw, hE, MF.rfl⟩
      rw [fX8_applies_205, jr_t v1]
      rfl
    · rw [v3]
      simp only
      have hml := (List.getElem?_eq_some_iff.mp v2).1
      have hnt : nd ∈ t := hp.mem_iff.mp (List.mem_of_getElem? v2)
      have hok := (ht.2.1 nd hnt).1
      have hne : v ≠ -8 := by
        rw [v1, m8_]
        intro e
        have := (nI_inj (by omega) (by omega)).mp e
        omega
      obtain ⟨w1, r1, e1, e2, e3, e4, e5⟩ := m_removes (z := z) hW hR hi hrl v2
      have hp1 : r1.Perm (wo nd.1 t) := by
        have q1 : t.Perm (nd :: r1) := hp.symm.trans e3
        have q2 := ht.rest q1
        have q3 : (wo nd.1 t).Perm (wo nd.1 (nd :: r1)) := q1.filter _
        rw [wo_one q2] at q3
        exact q3.symm
      have hX1 : MX w1 a x := hX.fr (fun f g1 g2 => e4.1 f (by omega) (by omega))
      obtain ⟨w2, f1, f2, f3, f4⟩ := m_fires (z := z) (s := i) (p := nd.1) (id := x.1) (kd := 2) hW (by omega) hok (hw.fr (fun f g1 g2 => e5 f (by omega))) (hE.fr (e5 23 (by omega)) (e5 24 (by omega)) rfl rfl rfl) hb
      have hR2 : MR w2 i r1 := e2.fr (fun f g1 g2 => f4 f (by omega))
      have hX2 : MX w2 a x := hX1.fr (fun f g1 g2 => f4 f (by omega))
      obtain ⟨v', g1, g2⟩ := m_first (z := z) hW hR2 hp1 ht.wo hi hx4
      obtain ⟨w3, i1, i2, i3, i4, i5⟩ := ih w2 _ _ r1 (wo nd.1 t) v' (by have := wo_len hnt; omega) hR2 hp1 ht.wo hX2 f2 f3 hb.fe g2 k (by omega)
      refine ⟨w3, ?_, i2, i3, i4, e4.trans ((MF.fires f4).trans i5)⟩
      have f1' : fX8_fires (c.1 20 0) (nI i) (nI (p7 nd.1)) (nI x.1) 2 (qE c lg z w1) = some ((), qE c lg z w2) := f1
      rw [fX8_applies_205, jr_f hne, mR16 hW, v1, mG16 hW _ _ _ _ (by omega), (hR.2 m _ v2).1, mO hW, jr_bd e1, mR10 hW, mG10 hW _ _ _ _ ha, hX1.1, mO hW, jr_bd f1', mR14 hW, mG14 hW _ _ _ _ ha, hX2.2.2.2.2, mO hW, jr_bd g1]
      exact i1
theorem m_applies {i a : Nat} {x : TX} {t : List ND} (hW : qW c lg) (hi : i < 6) (ha : a < 200) (hT : MT w i t) (ht : TV t) (hv : tv x t) (hX : MX w a x) (hw : MW w wt) (hE : ME w nn) (hb : CB nn wt) : ∃ w', fX8_applies (c.1 20 0) (nI i) (nI a) (qE c lg z w) = some ((), qE c lg z w') ∧ MT w' i (ct x t) ∧ MW w' (cy i x t (nn, wt)).2 ∧ ME w' (cy i x t (nn, wt)).1 ∧ MF w w' i := by
  obtain ⟨r, hp, hR⟩ := hT
  obtain ⟨v1, v2, v3, v4, v5, v6, v7⟩ := hv
  have hrl : r.length ≤ 12 := by rw [hp.length_eq]; exact ht.2.2
  have hro : ∀ nd, nd ∈ r → okp nd.1 = true := fun nd hn => (ht.2.1 nd (hp.mem_iff.mp hn)).1
  obtain ⟨v, e1, e2⟩ := m_find (z := z) hW hR hi hrl v2 hro
  obtain ⟨x0, x1, x2, x3, x4⟩ := hX
  unfold fX8_applies
  rw [mR12 hW, mG12 hW _ _ _ _ ha, x2, mO hW, jr_bd e1, mR11 hW, mG11 hW _ _ _ _ ha, x1]
  obtain ⟨id, kind, p, d, o⟩ := x
  simp only at *
  match kind, v4 with
  | 0, _ =>
    obtain ⟨q1, q2, q3⟩ := v5 rfl
    have hlt : r.length < 12 := by rw [hp.length_eq]; exact q1
    have h15 := hR.1
    let w1 : ZZ := u2 (u2 (u2 (u2 (u2 w 16 (12 * i + r.length) (nI (p7 p))) 17 (12 * i + r.length) (nI d)) 18 (12 * i + r.length) 0) 19 (12 * i + r.length) (nI o)) 15 i (nI (r.length + 1))
    have hk1 : ∀ f, ¬ (15 ≤ f ∧ f ≤ 19) → w1 f = w f := fun f hf => by
      show u2 (u2 (u2 (u2 (u2 w 16 _ _) 17 _ _) 18 _ _) 19 _ _) 15 _ _ f = w f
      rw [u2_k (by omega), u2_k (by omega), u2_k (by omega), u2_k (by omega), u2_k (by omega)]
    have hR1 : MR w1 i (r ++ [(p, d, 0, o)]) := by
      refine ⟨by show u2 _ 15 i _ 15 i = _; rw [u2_s, List.length_append]; rfl, fun q nd hq => ?_⟩
      by_cases hq1 : q < r.length
      · rw [List.getElem?_append_left hq1] at hq
        have := hR.2 q nd hq
        have hne : 12 * i + q ≠ 12 * i + r.length := by omega
        have e : ∀ (w : ZZ) (k f : Nat) (y : Int32), u2 w k (12 * i + r.length) y f (12 * i + q) = w f (12 * i + q) := fun w k f y => by unfold u2; rw [if_neg (fun q => hne q.2)]
        show u2 (u2 (u2 (u2 (u2 w 16 _ _) 17 _ _) 18 _ _) 19 _ _) 15 _ _ 16 _ = _ ∧ u2 (u2 (u2 (u2 (u2 w 16 _ _) 17 _ _) 18 _ _) 19 _ _) 15 _ _ 17 _ = _ ∧ u2 (u2 (u2 (u2 (u2 w 16 _ _) 17 _ _) 18 _ _) 19 _ _) 15 _ _ 18 _ = _ ∧ u2 (u2 (u2 (u2 (u2 w 16 _ _) 17 _ _) 18 _ _) 19 _ _) 15 _ _ 19 _ = _
        rw [u2_k (show (16 : Nat) ≠ 15 by decide), u2_k (show (17 : Nat) ≠ 15 by decide), u2_k (show (18 : Nat) ≠ 15 by decide), u2_k (show (19 : Nat) ≠ 15 by decide)]
        simp only [e]
        exact this
      · have hq2 := (List.getElem?_eq_some_iff.mp hq).1
        rw [List.length_append] at hq2
        have hq3 : q = r.length := by simp at hq2; omega
        subst hq3
        simp at hq
        subst hq
        show u2 (u2 (u2 (u2 (u2 w 16 _ _) 17 _ _) 18 _ _) 19 _ _) 15 _ _ 16 _ = _ ∧ u2 (u2 (u2 (u2 (u2 w 16 _ _) 17 _ _) 18 _ _) 19 _ _) 15 _ _ 17 _ = _ ∧ u2 (u2 (u2 (u2 (u2 w 16 _ _) 17 _ _) 18 _ _) 19 _ _) 15 _ _ 18 _ = _ ∧ u2 (u2 (u2 (u2 (u2 w 16 _ _) 17 _ _) 18 _ _) 19 _ _) 15 _ _ 19 _ = _
        simp only [u2_k (show (16 : Nat) ≠ 15 by decide), u2_k (show (17 : Nat) ≠ 15 by decide), u2_k (show (18 : Nat) ≠ 15 by decide), u2_k (show (19 : Nat) ≠ 15 by decide), u2_k (show (16 : Nat) ≠ 19 by decide), u2_k (show (16 : Nat) ≠ 18 by decide), u2_k (show (16 : Nat) ≠ 17 by decide), u2_k (show (17 : Nat) ≠ 19 by decide), u2_k (show (17 : Nat) ≠ 18 by decide), u2_k (show (18 : Nat) ≠ 19 by decide), u2_s]
        exact ⟨trivial, trivial, rfl, trivial⟩
    obtain ⟨w2, f1, f2, f3, f4⟩ := m_fires (z := z) (s := i) (p := p) (id := id) (kd := 0) hW (by omega) v2 (hw.fr (w' := w1) (fun f g1 g2 => hk1 f (by omega))) (hE.fr (w' := w1) (hk1 23 (by omega)) (hk1 24 (by omega)) rfl rfl rfl) hb
    refine ⟨w2, ?_, ⟨r ++ [(p, d, 0, o)], (List.perm_append_singleton _ _).trans (hp.cons _), hR1.fr (fun f g1 g2 => f4 f (by omega))⟩, f2, f3, MF.trans (w' := w1) ⟨fun f g1 g2 => hk1 f g1, fun j hj => ?_, fun f j g1 g2 g3 => ?_⟩ (MF.fires f4)⟩
    · have f1' : fX8_fires (c.1 20 0) (nI i) (nI (p7 p)) (nI id) 0 (qE c lg z w1) = some ((), qE c lg z w2) := f1
      rw [jr_t (show nI 0 = 0 from rfl)]
      simp (disch := omega) only [↓mR10 hW, ↓mG10 hW, ↓mS10 hW, ↓mR13 hW, ↓mG13 hW, ↓mS13 hW, ↓mR14 hW, ↓mG14 hW, ↓mS14 hW, ↓mR15 hW, ↓mG15 hW, ↓mS15 hW, ↓mR16 hW, ↓mG16 hW, ↓mS16 hW, ↓mR17 hW, ↓mG17 hW, ↓mS17 hW, ↓mR18 hW, ↓mG18 hW, ↓mS18 hW, ↓mR19 hW, ↓mG19 hW, ↓mS19 hW, ↓mO hW, ↓jZ0, ↓jZ1, ↓jRt, nI_add, nI_1, n7, n8, n10, n12, n40, h15, x0, x3, x4, u2_k]
      rw [jr_bd f1']
      rfl
    · show u2 (u2 (u2 (u2 (u2 w 16 _ _) 17 _ _) 18 _ _) 19 _ _) 15 _ _ 15 j = _
      rw [u2_i hj, u2_k (by decide), u2_k (by decide), u2_k (by decide), u2_k (by decide)]
    · show u2 (u2 (u2 (u2 (u2 w 16 _ _) 17 _ _) 18 _ _) 19 _ _) 15 _ _ f j = _
      have hne : j ≠ 12 * i + r.length := by omega
      have e : ∀ (w : ZZ) (k : Nat) (y : Int32), u2 w k (12 * i + r.length) y f j = w f j := fun w k y => by unfold u2; rw [if_neg (fun q => hne q.2)]
      rw [u2_k (by omega), e, e, e, e]
  | 1, _ =>
    obtain ⟨nd0, n1, n2⟩ := v6 (Or.inl rfl)
    rcases e2 with ⟨-, e3⟩ | ⟨m, nd, m1, m2, m3⟩
    · exact absurd n2 (e3 nd0 (hp.mem_iff.mpr n1))
    have hml := (List.getElem?_eq_some_iff.mp m1).1
    obtain ⟨s1, s2, s3, s4⟩ := hR.2 m nd m1
    let w1 : ZZ := u2 (u2 w 17 (12 * i + m) (nI d)) 18 (12 * i + m) (nI (nd.2.2.1 + 1))
    have hk1 : ∀ f, ¬ (15 ≤ f ∧ f ≤ 19) → w1 f = w f := fun f hf => by
      show u2 (u2 w 17 _ _) 18 _ _ f = w f
      rw [u2_k (by omega), u2_k (by omega)]
    have hnt : nd ∈ t := hp.mem_iff.mp (List.mem_of_getElem? m1)
    have hR1 : MR w1 i (r.map (fun n => if n.1 = p then (n.1, d, n.2.2.1 + 1, n.2.2.2) else n)) := by
      refine ⟨by show u2 (u2 w 17 _ _) 18 _ _ 15 i = _; rw [u2_k (by decide), u2_k (by decide), List.length_map]; exact hR.1, fun q nd' hq => ?_⟩
      rw [List.getElem?_map, Option.map_eq_some_iff] at hq
      obtain ⟨nd1, hq1, hq2⟩ := hq
      obtain ⟨g1, g2, g3, g4⟩ := hR.2 q nd1 hq1
      show u2 (u2 w 17 _ _) 18 _ _ 16 _ = _ ∧ u2 (u2 w 17 _ _) 18 _ _ 17 _ = _ ∧ u2 (u2 w 17 _ _) 18 _ _ 18 _ = _ ∧ u2 (u2 w 17 _ _) 18 _ _ 19 _ = _
      rw [u2_k (show (16 : Nat) ≠ 18 by decide), u2_k (show (16 : Nat) ≠ 17 by decide), u2_k (show (19 : Nat) ≠ 18 by decide), u2_k (show (19 : Nat) ≠ 17 by decide), u2_k (show (17 : Nat) ≠ 18 by decide)]
      by_cases hqm : q = m
      · subst hqm
        rw [m1] at hq1
        cases hq1
        rw [if_pos m2] at hq2
        subst hq2
        rw [u2_s, u2_s]
        exact ⟨g1, rfl, rfl, g4⟩
      · have hne : nd1.1 ≠ p := by
          intro e
          have h1 : nd1 = nd := nodup_eq ht.1 (hp.mem_iff.mp (List.mem_of_getElem? hq1)) hnt (by rw [e, m2])
          have h2 : (r.map (·.1)).Nodup := (hp.map _).nodup_iff.mpr ht.1
          have h3 : (r.map (·.1))[q]? = (r.map (·.1))[m]? := by rw [List.getElem?_map, List.getElem?_map, hq1, m1, h1]
          have hql := (List.getElem?_eq_some_iff.mp hq1).1
          exact hqm ((List.getElem?_inj (by rw [List.length_map]; exact hql) h2).mp h3)
        rw [if_neg hne] at hq2
        subst hq2
        rw [u2_i (show 12 * i + q ≠ 12 * i + m by omega), u2_i (show 12 * i + q ≠ 12 * i + m by omega), u2_k (show (18 : Nat) ≠ 17 by decide)]
        exact ⟨g1, g2, g3, g4⟩
    obtain ⟨w2, f1, f2, f3, f4⟩ := m_fires (z := z) (s := i) (p := p) (id := id) (kd := 1) hW (by omega) v2 (hw.fr (w' := w1) (fun f g1 g2 => hk1 f (by omega))) (hE.fr (w' := w1) (hk1 23 (by omega)) (hk1 24 (by omega)) rfl rfl rfl) hb
    refine ⟨w2, ?_, ⟨_, hp.map _, hR1.fr (fun f g1 g2 => f4 f (by omega))⟩, f2, f3, MF.trans (w' := w1) ⟨fun f g1 g2 => hk1 f g1, fun j hj => ?_, fun f j g1 g2 g3 => ?_⟩ (MF.fires f4)⟩
    · have f1' : fX8_fires (c.1 20 0) (nI i) (nI (p7 p)) (nI id) 1 (qE c lg z w1) = some ((), qE c lg z w2) := f1
      rw [jr_f (show ¬ nI 1 = 0 by decide +kernel), jr_t (show nI 1 = 1 from rfl), m3]
      simp (disch := omega) only [↓mR10 hW, ↓mG10 hW, ↓mS10 hW, ↓mR13 hW, ↓mG13 hW, ↓mS13 hW, ↓mR17 hW, ↓mG17 hW, ↓mS17 hW, ↓mR18 hW, ↓mG18 hW, ↓mS18 hW, ↓mO hW, ↓jZ0, ↓jZ1, ↓jRt, nI_add, nI_1, n7, n8, n10, n12, n40, s3, x0, x3, u2_k]
      rw [jr_bd f1']
      rfl
    · show u2 (u2 w 17 _ _) 18 _ _ 15 j = _
      rw [u2_k (by decide), u2_k (by decide)]
    · show u2 (u2 w 17 _ _) 18 _ _ f j = _
      have hne : j ≠ 12 * i + m := by omega
      have e : ∀ (w : ZZ) (k : Nat) (y : Int32), u2 w k (12 * i + m) y f j = w f j := fun w k y => by unfold u2; rw [if_neg (fun q => hne q.2)]
      rw [e, e]
  | 2, _ =>
    obtain ⟨nd0, n1, n2⟩ := v6 (Or.inr rfl)
    rcases e2 with ⟨-, e3⟩ | ⟨m, nd, m1, m2, m3⟩
    · exact absurd n2 (e3 nd0 (hp.mem_iff.mpr n1))
    obtain ⟨w1, r1, g1, g2, g3, g4, g5⟩ := m_removes (z := z) hW hR hi hrl m1
    have hp1 : r1.Perm (wo p t) := by
      have q1 : t.Perm (nd :: r1) := hp.symm.trans g3
      have q2 := ht.rest q1
      have q3 : (wo nd.1 t).Perm (wo nd.1 (nd :: r1)) := q1.filter _
      rw [wo_one q2, m2] at q3
      exact q3.symm
    obtain ⟨w2, f1, f2, f3, f4⟩ := m_fires (z := z) (s := i) (p := p) (id := id) (kd := 2) hW (by omega) v2 (hw.fr (fun f h1 h2 => g5 f (by omega))) (hE.fr (g5 23 (by omega)) (g5 24 (by omega)) rfl rfl rfl) hb
    refine ⟨w2, ?_, ⟨r1, hp1, g2.fr (fun f h1 h2 => f4 f (by omega))⟩, f2, f3, g4.trans (MF.fires f4)⟩
    have f1' : fX8_fires (c.1 20 0) (nI i) (nI (p7 p)) (nI id) 2 (qE c lg z w1) = some ((), qE c lg z w2) := f1
    rw [jr_f (show ¬ nI 2 = 0 by decide +kernel), jr_f (show ¬ nI 2 = 1 by decide +kernel), jr_t (show nI 2 = 2 from rfl), mO hW, m3, jr_bd g1, mR10 hW, mG10 hW _ _ _ _ ha, g4.1 10 (by omega) (by omega), x0, mO hW, jr_bd f1']
    rfl
  | 3, _ =>
    obtain ⟨v', g1, g2⟩ := m_first (z := z) hW hR hp ht hi v3
    obtain ⟨w1, i1, i2, i3, i4, i5⟩ := m_close (z := z) (x := (id, 3, p, d, o)) hW hi ha v3 12 w nn wt r t v' ht.2.2 hR hp ht ⟨x0, x1, x2, x3, x4⟩ hw hE hb g2 4096 (by omega)
    refine ⟨w1, ?_, ?_, i3, i4, i5⟩
    · rw [jr_f (show ¬ nI 3 = 0 by decide +kernel), jr_f (show ¬ nI 3 = 1 by decide +kernel), jr_f (show ¬ nI 3 = 2 by decide +kernel), mR14 hW, mG14 hW _ _ _ _ ha, x4, mO hW, jr_bd g1]
      exact i1
    · have e := cr_all (ses := o) 12 ht ht.2.2
      simp only at i2
      rw [e] at i2
      exact i2
end MC
