/-! ===== proposals ===== -/
section PR
variable {c : CX} {lg : LG} {z w : ZZ} {N : Nat} {nn : NN} {lo : Nat → List TX} {tr : Nat → List ND} {wt : List WT}
theorem cn_lo {f g : Nat → Bool} {n : Nat} (h : ∀ j, j < n → f j = true → g j = true) {q : Nat} (hq : q ≤ cn f n) : q ≤ cn g n := Nat.le_trans hq (cn_mono n h)
theorem INV.prop {g : Nat} {x : TX} (h : INV N nn lo tr wt) (hN : N < 900) (hg : nn 0 6 = g) (hg5 : g < 5) (hl : (lo g).length < 40) (hx1 : x.1 = 1000 * nn 0 7 + (nn 0 8 + 1)) (hv : tv x (rp (lo g))) : INV N (n2 nn 0 8 (nn 0 8 + 1)) (va_up lo g (lo g ++ [x])) (va_up tr 5 (ct x (tr 5))) wt := by
  obtain ⟨i1, i2, i3, ⟨i4, i5, i6⟩, i7, ⟨g', g1, g2, g3, g4, g5, g6, g7⟩, i9, i10⟩ := h
  have hgg : g' = g := by rw [← hg]; exact (g2 (by omega)).symm
  subst hgg
  have kk : ∀ k, k ≠ 0 → n2 nn 0 8 (nn 0 8 + 1) k = nn k := fun k hk => n2_k hk
  have k0 : ∀ i, i ≠ 8 → n2 nn 0 8 (nn 0 8 + 1) 0 i = nn 0 i := fun i hi => n2_i hi
  have hlen : ∀ i, (lo i).length ≤ (va_up lo g' (lo g' ++ [x]) i).length := fun i => by
    by_cases e : i = g'
    · subst e; rw [va_s, List.length_append]; omega
    · rw [va_n e]; exact Nat.le_refl _
  have hpre : ∀ i, lo i <+: va_up lo g' (lo g' ++ [x]) i := fun i => by
    by_cases e : i = g'
    · subst e; rw [va_s]; exact List.prefix_append _ _
    · rw [va_n e]; exact List.prefix_refl _
  have hmem : ∀ i y, i < 5 → y ∈ va_up lo g' (lo g' ++ [x]) i → y ∈ lo i ∨ (i = g' ∧ y = x) := fun i y _ hy => by
    by_cases e : i = g'
    · subst e
      rw [va_s] at hy
      rcases List.mem_append.mp hy with q | q
      · exact Or.inl q
      · simp at q; exact Or.inr ⟨rfl, q⟩
    · rw [va_n e] at hy; exact Or.inl hy
  unfold INV WV qm
  simp only [kk 1 (by decide), kk 2 (by decide), kk 3 (by decide), kk 4 (by decide), kk 10 (by decide), k0 4 (by decide), k0 5 (by decide), k0 6 (by decide), k0 7 (by decide), k0 9 (by decide), k0 10 (by decide), k0 11 (by decide), n2_s]
  refine ⟨i1, i2, ?_, ⟨i4, i5, i6⟩, fun i hi => ?_, ⟨g', g1, g2, Nat.le_trans g3 (hlen g'), ?_, fun i hi he => ?_, fun i hi => ?_, ?_⟩, fun i hi => ⟨fun j k y y' h1 h2 h3 => ?_, fun y hy => ?_⟩, fun i k y y' hi hk hy hy' e => ?_⟩
  · rcases i3 with q | ⟨q1, q2, q3⟩
    · have := q.1; omega
    · refine Or.inr ⟨q1, q2, ?_⟩
      rw [va_s, hg, va_s, rp_snoc, q3, hg]
  · obtain ⟨a1, a2, a3, a4, a5⟩ := i7 i hi
    rw [va_n (show i ≠ 5 by omega)]
    by_cases e : i = g'
    · subst e
      rw [va_s, List.length_append, List.take_append_of_le_length a4]
      exact ⟨by simp; omega, a2.snoc hv, a3, by omega, a5⟩
    · rw [va_n e]
      exact ⟨a1, a2, a3, a4, a5⟩
  · rw [va_s, List.length_append]; simp; omega
  · rw [va_s]
    by_cases e : i = g'
    · subst e; rw [va_s]; exact List.prefix_refl _
    · rw [va_n e]; exact (g5 i hi he).trans (List.prefix_append _ _)
  · obtain ⟨a1, a2, a3, a4, a5⟩ := i7 i hi
    rw [va_s, List.take_append_of_le_length (by omega), ← g6 i hi]
    by_cases e : i = g'
    · subst e; rw [va_s, List.take_append_of_le_length a4]
    · rw [va_n e]
  · refine cn_lo (fun j hj q => ?_) g7
    simp only [decide_eq_true_eq] at q ⊢
    exact ⟨q.1, Nat.le_trans q.2 (hlen j)⟩
  · by_cases e : i = g'
    · subst e
      rw [va_s] at h1 h2
      have hk := (List.getElem?_eq_some_iff.mp h2).1
      rw [List.length_append] at hk
      simp at hk
      rw [List.getElem?_append_left (by omega)] at h1
      by_cases hk2 : k < (lo i).length
      · rw [List.getElem?_append_left hk2] at h2
        exact (i9 i hi).1 j k y y' h1 h2 h3
      · have hk3 : k = (lo i).length := by omega
        subst hk3
        simp at h2
        subst h2
        have := ((i9 i hi).2 y (List.mem_of_getElem? h1)).2
        omega
    · rw [va_n e] at h1 h2
      exact (i9 i hi).1 j k y y' h1 h2 h3
  · rcases hmem i y hi hy with q | ⟨-, q⟩
    · have := (i9 i hi).2 y q; omega
    · subst q; omega
  · rcases hmem i y hi hy with q | ⟨-, q⟩ <;> rcases hmem k y' hk hy' with q' | ⟨-, q'⟩
    · exact i10 i k y y' hi hk q q' e
    · subst q'
      have := ((i9 i hi).2 y q).2
      omega
    · subst q
      have := ((i9 k hk).2 y' q').2
      omega
    · rw [q, q']
theorem RM.tr5 {t : List ND} (h : RM w nn lo tr wt) : RM w nn lo (va_up tr 5 t) wt := ⟨h.1, h.2.1, fun i hi => by rw [va_n (by omega)]; exact h.2.2.1 i hi, h.2.2.2⟩
theorem nI1000 {a b : Nat} : (1000 : Int32) * nI a + nI b = nI (1000 * a + b) := by rw [n1000, nI_add]
theorem prop_both {g kind p d o : Nat} (w0 : ZZ) (hX : RX c lg z nn lo tr wt) (hI : INV N nn lo tr wt) (hN : N < 900) (hg : nn 0 6 = g) (hg5 : g < 5) (hd : d < 2 ^ 32) (hv : tv (1000 * nn 0 7 + (nn 0 8 + 1), kind, p, d, o) (rp (lo g))) : ∃ v c' lg' z', fX7_propose (c.1 0 0) (nI kind) (nI p) (nI d) (nI o) (qE c lg z w0) = some (v, qE c' lg' z' w0) ∧ qW c' lg' ∧ KE c c' 210 11700 ∧ ∀ w, RM w nn lo tr wt → ∃ w' nn' lo' tr', fX8_proposes (c'.1 20 0) (nI kind) (nI (p7 p)) (nI d) (nI o) (qE c' lg' z' w) = some (v, qE c' lg' z' w') ∧ RX c' lg' z' nn' lo' tr' wt ∧ RM w' nn' lo' tr' wt ∧ INV N nn' lo' tr' wt := by
  have hW := hX.1
  have hgl := hI.ll g hg5
  have hTV : TV (rp (lo g)) := by
    have := rp_TV (hI.2.2.2.2.1 g hg5).2.1 (lo g).length
    rwa [List.take_of_length_le (Nat.le_refl _)] at this
  have h5 : tr 5 = rp (lo g) := by
    rcases hI.2.2.1 with q | ⟨q1, q2, q3⟩
    · have := q.1; omega
    · rw [hg] at q3; exact q3
  have hver : ∀ nd, nd ∈ tr 5 → nd.2.2.1 < 1000 := fun nd hn => by
    rw [h5] at hn
    have h1 : nd ∈ rp ((lo g).take (lo g).length) := by rw [List.take_of_length_le (Nat.le_refl _)]; exact hn
    have := rp_ver _ nd h1
    omega
  have chg : ∀ (z : ZZ), z 0 6 = nI (nn 0 6) → chf c (z 0 6) = some (c.1 2 g) := fun z hz => by rw [hz, hg, chf_s hg5]
  by_cases h40 : (lo g).length = 40
  · refine ⟨-7, c, lg, z, ?_, hW, KE.rfl.mono (by omega) (by omega), fun w hM => ?_⟩
    rotate_left
    · obtain ⟨w', f1, -⟩ := m_proposes (z := z) (kind := kind) (p := p) (d := d) (o := o) hW hM hg5 hg hI.ll
      rw [if_pos h40] at f1
      exact ⟨w, nn, lo, tr, f1, hX, hM, hI⟩
    unfold fX7_propose
    rw [xR6 hW, chg z (hX.2.1 0 6 rfl), jr_f (by simp), xR6 hW, chg z (hX.2.1 0 6 rfl), sR2 hW _ _ _ _ hg5, lO hW _ _ _ _ (by omega), lS hW _ _ _ _ (by omega), hX.len.2 g hg5, h40, jr_f (by decide +kernel)]
    rfl
  · have hX1 := hX.n (k := 0) (i := 8) (v := nn 0 8 + 1) rfl
    obtain ⟨v1, v2, v3, v4, -⟩ := id hv
    simp only at v1 v2 v3 v4
    have hpl := okp_lt v2
    obtain ⟨S1, z2, e1, e2, e3, e4, e5, e6⟩ := hX1.newtx (x1 := 1000 * nn 0 7 + (nn 0 8 + 1)) (x2 := kind) (x3 := p) (x4 := d) (x5 := o) w0 (by omega) (by omega) (by omega) hd v3
    obtain ⟨c3, lg3, z3, f1, f2, f3, f4⟩ := e3.ladd w0 hg5 e4 e5 (by omega)
    have t3 : c3.2.1 c.2.2.2.2.2.1 = some (8, c.2.2.2.2.2.1) := f3.2.1 _ e4
    have x3' : txof z3 c.2.2.2.2.2.1 = (1000 * nn 0 7 + (nn 0 8 + 1), kind, p, d, o) := by rw [txof_k f4]; exact e5
    have hcb : CB (n2 nn 0 8 (nn 0 8 + 1)) wt := (hI.CB (by omega)).n (by decide) (by decide)
    obtain ⟨lg4, z4, i1, i2, -⟩ := x_carry w0 f2 (show 5 < 6 by omega) t3 x3' (by rw [h5]; exact hv) (by rw [h5]; exact hTV) hver hcb
    rw [cy_5 (fun v hv => (hcb.1.2 v hv).1)] at i2
    have hKE : KE c c3 6 63 := (e6.trans f3).mono (by omega) (by omega)
    have hc0 : c3.1 0 0 = c.1 0 0 := hKE.1 0 0 (by decide)
    have hc2 : c3.1 2 g = c.1 2 g := hKE.1 2 g (by decide)
    refine ⟨nI (1000 * nn 0 7 + (nn 0 8 + 1)), c3, lg4, z4, ?_, i2.1, hKE.mono (by omega) (by omega), fun w hM => ?_⟩
    rotate_left
    · obtain ⟨w', g1, g2⟩ := m_proposes (z := z4) (kind := kind) (p := p) (d := d) (o := o) i2.1 hM hg5 hg hI.ll
      rw [if_neg h40] at g1
      exact ⟨w', _, _, _, g1, i2, (g2 (by omega)).tr5, hI.prop hN hg hg5 (by omega) rfl hv⟩
    unfold fX7_propose
    rw [xR6 hW, chg z (hX.2.1 0 6 rfl), jr_f (by simp), xR6 hW, chg z (hX.2.1 0 6 rfl), sR2 hW _ _ _ _ hg5, lO hW _ _ _ _ (by omega), lS hW _ _ _ _ (by omega), hX.len.2 g hg5, jr_t (show nI (lo g).length < (40 : Int32) from nI_lt (b := 40) (by omega) (by omega)), xI8 hW, hX.2.1 0 8 rfl, nI_1, xP8 hW, xI7 hW, u2_i (by decide), hX.2.1 0 7 rfl, xI8 hW, u2_s, nI1000, jr_bd e1, jr_bd e2]
    have hWT := e3.1
    have ecf : chf (cT c) (z2 0 6) = some (c.1 2 g) := by
      rw [e3.2.1 0 6 rfl, n2_i (by decide), hg]
      exact chf_s hg5
    rw [show c.1 0 0 = (cT c).1 0 0 from rfl, xR6 hWT, ecf, show c.1 2 g = (cT c).1 2 g from rfl, sR2 hWT _ _ _ _ hg5, lO hWT _ _ _ _ (by omega), jr_bd f1]
    rw [show (cT c).1 0 0 = c3.1 0 0 from hc0.symm, xR3 f2.1, xR2 f2.1, tO f2.1 _ _ _ _ (by omega), jr_bd i1]
    rfl
theorem x_fnd {i p : Nat} {nd : ND} (w : ZZ) (h : RX c lg z nn lo tr wt) (hi : i < 6) (hp : okp p = true) (ht : TV (tr i)) (h1 : nd ∈ tr i) (h2 : nd.1 = p) : ∃ m, m < 12 ∧ fX4_find (c.1 3 i) (nI p) (qE c lg z w) = some (some (c.1 5 (12 * i + m)), qE c lg z w) ∧ slot z (12 * i + m) = some nd := by
  obtain ⟨r, e1, e2⟩ := h.find (i := i) (p := p) w hi (okp_lt hp)
  rcases e2 with ⟨-, e3⟩ | ⟨m, nd', m1, m2, m3, m4, m5⟩
  · exact absurd h2 (e3 nd h1)
  · rw [m2] at e1
    rw [nodup_eq ht.1 m4 h1 (by rw [m5, h2])] at m3
    exact ⟨m, m1, e1, m3⟩
theorem x_nfd {i p : Nat} (w : ZZ) (h : RX c lg z nn lo tr wt) (hi : i < 6) (hp : okp p = true) (h1 : ∀ nd, nd ∈ tr i → nd.1 ≠ p) : fX4_find (c.1 3 i) (nI p) (qE c lg z w) = some (none, qE c lg z w) := by
  obtain ⟨r, e1, e2⟩ := h.find (i := i) (p := p) w hi (okp_lt hp)
  rcases e2 with ⟨e2, -⟩ | ⟨m, nd', m1, m2, m3, m4, m5⟩
  · rw [e2] at e1; exact e1
  · exact absurd m5 (h1 nd' m4)
theorem m_fnd {i p : Nat} {t : List ND} {nd : ND} (hW : qW c lg) (h : MT w i t) (hi : i < 6) (hp : okp p = true) (ht : TV t) (h1 : nd ∈ t) (h2 : nd.1 = p) : ∃ m, m < 12 ∧ fX8_find (c.1 20 0) (nI i) (nI (p7 p)) (qE c lg z w) = some (nI (12 * i + m), qE c lg z w) ∧ w 18 (12 * i + m) = nI nd.2.2.1 ∧ w 19 (12 * i + m) = nI nd.2.2.2 := by
  obtain ⟨q, q1, q2⟩ := h
  have hql : q.length ≤ 12 := by rw [q1.length_eq]; exact ht.2.2
  obtain ⟨v, f1, f2⟩ := m_find (z := z) (p := p) hW q2 hi hql hp (fun nd hn => (ht.2.1 nd (q1.mem_iff.mp hn)).1)
  rcases f2 with ⟨-, f3⟩ | ⟨m, nd', g1, g2, g3⟩
  · exact absurd h2 (f3 nd (q1.mem_iff.mpr h1))
  · have e : nd' = nd := nodup_eq ht.1 (q1.mem_iff.mp (List.mem_of_getElem? g1)) h1 (by rw [g2, h2])
    subst e
    have hml := (List.getElem?_eq_some_iff.mp g1).1
    rw [g3] at f1
    exact ⟨m, by omega, f1, (q2.2 m _ g1).2.2.1, (q2.2 m _ g1).2.2.2⟩
theorem m_nfd {i p : Nat} {t : List ND} (hW : qW c lg) (h : MT w i t) (hi : i < 6) (hp : okp p = true) (ht : TV t) (h1 : ∀ nd, nd ∈ t → nd.1 ≠ p) : fX8_find (c.1 20 0) (nI i) (nI (p7 p)) (qE c lg z w) = some (-8, qE c lg z w) := by
  obtain ⟨q, q1, q2⟩ := h
  have hql : q.length ≤ 12 := by rw [q1.length_eq]; exact ht.2.2
  obtain ⟨v, f1, f2⟩ := m_find (z := z) (p := p) hW q2 hi hql hp (fun nd hn => (ht.2.1 nd (q1.mem_iff.mp hn)).1)
  rcases f2 with ⟨f2, -⟩ | ⟨m, nd', g1, g2, g3⟩
  · rw [f2] at f1; exact f1
  · exact absurd g2 (h1 nd' (q1.mem_iff.mp (List.mem_of_getElem? g1)))
end PR
