/-! ===== what the reference's memory holds; its logs ===== -/
section MG
variable {c : CX} {lg : LG} {z w : ZZ} {nn : NN} {lo : Nat → List TX} {tr : Nat → List ND} {wt : List WT}
def MN (w : ZZ) (nn : NN) : Prop := (w 0 0 = nI (nn 0 4) ∧ w 5 0 = nI (nn 0 6) ∧ w 6 0 = nI (nn 0 7) ∧ w 7 0 = nI (nn 0 8) ∧ w 8 0 = nI (nn 0 9) ∧ w 20 0 = nI (nn 0 11) ∧ w 22 0 = nI (nn 0 5)) ∧ ∀ i, i < 5 → (i < nn 0 4 → w 1 i = nI (nn 1 i)) ∧ w 2 i = nI (nn 2 i) ∧ w 3 i = nI (nn 3 i) ∧ w 4 i = nI (nn 4 i)
def PB (w : ZZ) (p n : Nat) : Prop := ∃ ns : List Nat, ns.length = n ∧ n ≤ 4 ∧ (∀ a, a ∈ ns → a < 6) ∧ p = ns.foldl (fun q a => 8 * q + (a + 1)) 0 ∧ ∀ j a, ns[j]? = some a → w 21 j = nI a
/-- the reference's memory holds these -/
def RM (w : ZZ) (nn : NN) (lo : Nat → List TX) (tr : Nat → List ND) (wt : List WT) : Prop := MN w nn ∧ (∀ i, i < 5 → ML w i (lo i)) ∧ (∀ i, i < 5 → MT w i (tr i)) ∧ MW w wt ∧ ME w nn ∧ PB w (nn 0 10) (nn 0 11)
theorem PB.fr {w w' : ZZ} {p n : Nat} (h : PB w p n) (e : w' 21 = w 21) : PB w' p n := by
  unfold PB
  rw [e]
  exact h
theorem MN.fr {w w' : ZZ} {nn nn' : NN} (h : MN w nn) (hk : ∀ f, f ≤ 8 ∨ f = 20 ∨ f = 22 → w' f = w f) (hn : ∀ k, k ≤ 4 → nn' k = nn k) : MN w' nn' := by
  unfold MN
  rw [hk 0 (by omega), hk 1 (by omega), hk 2 (by omega), hk 3 (by omega), hk 4 (by omega), hk 5 (by omega), hk 6 (by omega), hk 7 (by omega), hk 8 (by omega), hk 20 (by omega), hk 22 (by omega), hn 0 (by omega), hn 1 (by omega), hn 2 (by omega), hn 3 (by omega), hn 4 (by omega)]
  exact h
/-- a scalar that only MN speaks of -/
theorem RM.sc {a b v : Nat} (h : RM w nn lo tr wt) (hab : (a, b) ∈ [(5, 6), (6, 7), (7, 8), (8, 9)]) : RM (u2 w a 0 (nI v)) (n2 nn 0 b v) lo tr wt := by
  obtain ⟨⟨⟨a0, a1, a2, a3, a4, a5, a6⟩, a7⟩, h2, h3, h4, h5, h6⟩ := h
  have hb : b ≠ 4 ∧ b ≠ 5 ∧ b ≠ 10 ∧ b ≠ 11 ∧ 5 ≤ a ∧ a ≤ 8 ∧ b = a + 1 := by
    simp only [List.mem_cons, Prod.mk.injEq, List.not_mem_nil, or_false] at hab
    omega
  obtain ⟨b1, b2, b3, b4, b5, b6, b7⟩ := hb
  subst b7
  refine ⟨⟨⟨?_, ?_, ?_, ?_, ?_, ?_, ?_⟩, fun i hi => ?_⟩, fun i hi => (h2 i hi).fr (fun f q1 q2 => u2_k (by omega)), fun i hi => (h3 i hi).fr (fun f q1 q2 => u2_k (by omega)), h4.fr (fun f q1 q2 => u2_k (by omega)), h5.fr (u2_k (by omega)) (u2_k (by omega)) (n2_i (by omega)) (n2_k (by decide)) (n2_k (by decide)), ?_⟩
  · rw [u2_k (by omega), n2_i (by omega)]; exact a0
  · by_cases e : a = 5
    · subst e; rw [u2_s, n2_s]
    · rw [u2_k (by omega), n2_i (by omega)]; exact a1
  · by_cases e : a = 6
    · subst e; rw [u2_s, n2_s]
    · rw [u2_k (by omega), n2_i (by omega)]; exact a2
  · by_cases e : a = 7
    · subst e; rw [u2_s, n2_s]
    · rw [u2_k (by omega), n2_i (by omega)]; exact a3
  · by_cases e : a = 8
    · subst e; rw [u2_s, n2_s]
    · rw [u2_k (by omega), n2_i (by omega)]; exact a4
  · rw [u2_k (by omega), n2_i (by omega)]; exact a5
  · rw [u2_k (by omega), n2_i (by omega)]; exact a6
  · rw [n2_i (by omega), n2_k (by decide), n2_k (by decide), n2_k (by decide), n2_k (by decide), u2_k (by omega), u2_k (by omega), u2_k (by omega), u2_k (by omega)]
    exact a7 i hi
  · rw [n2_i (by omega), n2_i (by omega)]
    exact h6.fr (u2_k (by omega))
/-- a number of a server -/
theorem RM.sv {k i v : Nat} (h : RM w nn lo tr wt) (hk : 1 ≤ k) (hk2 : k ≤ 4) : RM (u2 w k i (nI v)) (n2 nn k i v) lo tr wt := by
  obtain ⟨⟨⟨a0, a1, a2, a3, a4, a5, a6⟩, a7⟩, h2, h3, h4, h5, h6⟩ := h
  refine ⟨⟨?_, fun j hj => ?_⟩, fun i hi => (h2 i hi).fr (fun f q1 q2 => u2_k (by omega)), fun i hi => (h3 i hi).fr (fun f q1 q2 => u2_k (by omega)), h4.fr (fun f q1 q2 => u2_k (by omega)), h5.fr (u2_k (by omega)) (u2_k (by omega)) (by rw [n2_k (by omega)]) (n2_k (by omega)) (n2_k (by omega)), ?_⟩
  · rw [u2_k (by omega), u2_k (by omega), u2_k (by omega), u2_k (by omega), u2_k (by omega), u2_k (by omega), u2_k (by omega), n2_k (by omega)]
    exact ⟨a0, a1, a2, a3, a4, a5, a6⟩
  · rw [n2_k (show 0 ≠ k by omega)]
    obtain ⟨b1, b2, b3, b4⟩ := a7 j hj
    exact ⟨fun q => n2_u (b1 q), n2_u b2, n2_u b3, n2_u b4⟩
  · rw [n2_k (by omega)]
    exact h6.fr (u2_k (by omega))
/-- one log -/
theorem RM.log {w' : ZZ} {s : Nat} {l : List TX} (h : RM w nn lo tr wt) (hk : ∀ f, ¬ (9 ≤ f ∧ f ≤ 14) → w' f = w f) (ho : ∀ i, i < 5 → i ≠ s → ML w' i (lo i)) (hs : ML w' s l) : RM w' nn (va_up lo s l) tr wt := by
  obtain ⟨h1, h2, h3, h4, h5, h6⟩ := h
  refine ⟨h1.fr (fun f q => hk f (by omega)) (fun _ _ => rfl), fun i hi => ?_, fun i hi => (h3 i hi).fr (fun f q1 q2 => hk f (by omega)), h4.fr (fun f q1 q2 => hk f (by omega)), h5.fr (hk 23 (by omega)) (hk 24 (by omega)) rfl rfl rfl, h6.fr (hk 21 (by omega))⟩
  by_cases e : i = s
  · subst e
    rw [va_s]
    exact hs
  · rw [va_n e]
    exact ho i hi e
/-- a transaction was carried out on tree i -/
theorem RM.car {w' : ZZ} {nn' : NN} {wt' : List WT} {i : Nat} {t : List ND} (h : RM w nn lo tr wt) (hl : ∀ j, j < 5 → (tr j).length ≤ 12) (hF : MF w w' i) (hT : MT w' i t) (hw : MW w' wt') (hE : ME w' nn') (hn : ∀ k j, k ≠ 10 → k ≠ 11 → nn' k j = nn k j) : RM w' nn' lo (va_up tr i t) wt' := by
  obtain ⟨h1, h2, h3, h4, h5, h6⟩ := h
  have hn' : ∀ k, k ≤ 4 → nn' k = nn k := fun k hk => by funext j; exact hn k j (by omega) (by omega)
  refine ⟨h1.fr (fun f q => hF.1 f (by omega) (by omega)) hn', fun j hj => (h2 j hj).fr (fun f q1 q2 => hF.1 f (by omega) (by omega)), fun j hj => ?_, hw, hE, ?_⟩
  · by_cases e : j = i
    · subst e
      rw [va_s]
      exact hT
    · rw [va_n e]
      exact (h3 j hj).ot (hl j hj) hF e
  · rw [hn' 0 (by omega)]
    exact h6.fr (hF.1 21 (by omega) (by omega))
theorem m_go_l {s e b : Nat} {l : List TX} (hW : qW c lg) (hs : s < 5) (hl : l.length ≤ 40) (hR : RV l) (cnt : Nat) (hcnt : cnt < 2 ^ 31) (he : e = min cnt l.length) (hbe : b ≤ e) : ∀ n j (w : ZZ) (nn : NN) (tr : Nat → List ND) (wt : List WT), RM w nn lo tr wt → lo s = l → j + n = e → nn 4 s = j → tr s = rp (l.take j) → (∀ i, i < 5 → (tr i).length ≤ 12) → b ≤ j → CB nn wt → ∀ k, n < k → ∃ w', fX8_goesOn_2 k (c.1 20 0) (nI s) (nI cnt) (nI (j - b)) (qE c lg z w) = some (nI (e - b), qE c lg z w') ∧ RM w' (apl s l n j (nn, wt)).1 lo (va_up tr s (rp (l.take e))) (apl s l n j (nn, wt)).2 := by
  intro n
  induction n with
  | zero =>
    intro j w nn tr wt h hlo hj hn htr htl hbj hb k hk
    obtain ⟨k, rfl⟩ : ∃ k', k = k' + 1 := ⟨k - 1, by omega⟩
    have e4 : w 4 s = nI j := by rw [(h.1.2 s hs).2.2.2, hn]
    have e9 : w 9 s = nI l.length := by rw [(h.2.1 s hs).1, hlo]
    refine ⟨w, ?_, ?_⟩
    · rw [fX8_goesOn_2, mR4 hW, mG4 hW _ _ _ _ hs, e4]
      by_cases q : cnt ≤ j
      · rw [jr_t (nI_le q (by omega)), show j = e by omega]
        rfl
      · rw [jr_f (nI_ge (by omega) (by omega)), mR4 hW, mG4 hW _ _ _ _ hs, mR9 hW, mG9 hW _ _ _ _ hs, e4, e9, jr_t (nI_le (by omega) (by omega)), show j = e by omega]
        rfl
    · rw [show e = j by omega, ← htr, va_self]
      exact h
  | succ n ih =>
    intro j w nn tr wt h hlo hj hn htr htl hbj hb k hk
    obtain ⟨k, rfl⟩ : ∃ k', k = k' + 1 := ⟨k - 1, by omega⟩
    have e4 : w 4 s = nI j := by rw [(h.1.2 s hs).2.2.2, hn]
    have e9 : w 9 s = nI l.length := by rw [(h.2.1 s hs).1, hlo]
    have hjl : j < l.length := by omega
    have hg : l[j]? = some l[j] := List.getElem?_eq_getElem hjl
    have hX : MX w (40 * s + j) l[j] := (h.2.1 s hs).2 j _ (by rw [hlo]; exact hg)
    have hTV := rp_TV hR j
    obtain ⟨w1, e1, f1, f2, f3, f4⟩ := m_applies (z := z) hW (show s < 6 by omega) (show 40 * s + j < 200 by omega) (h.2.2.1 s hs) (by rw [htr]; exact hTV) (by rw [htr]; exact hR j _ hg) hX h.2.2.2.1 h.2.2.2.2.1 hb
    rw [htr] at f1 f2 f3
    have hc := h.car htl f4 f1 f2 f3 (fun k i q1 q2 => cy_k q1 q2)
    have hc2 := hc.sv (k := 4) (i := s) (v := j + 1) (by omega) (by omega)
    rw [← rp_take hg] at hc2
    have e41 : w1 4 s = nI j := by rw [f4.1 4 (by omega) (by omega)]; exact e4
    obtain ⟨w2, g1, g2⟩ := ih (j + 1) _ _ _ _ hc2 hlo (by omega) (by rw [n2_s]) (by rw [va_s]) (fun i hi => by
      by_cases q : i = s
      · subst q; rw [va_s]; exact (rp_TV hR (j + 1)).2.2
      · rw [va_n q]; exact htl i hi) (by omega) (hb.cy.n (by decide) (by simp)) k (by omega)
    refine ⟨w2, ?_, ?_⟩
    · rw [fX8_goesOn_2, mR4 hW, mG4 hW _ _ _ _ hs, e4, jr_f (nI_ge (by omega) (by omega)), mR4 hW, mG4 hW _ _ _ _ hs, mR9 hW, mG9 hW _ _ _ _ hs, e4, e9, jr_f (nI_ge (by omega) (by omega)), mR4 hW, mG4 hW _ _ _ _ hs, e4, mO hW, n40, nI_add, jr_bd e1, mR4 hW, mG4 hW _ _ _ _ hs, e41, nI_1, mS4 hW _ _ _ _ _ hs, nI_1, show j - b + 1 = j + 1 - b by omega]
      exact g1
    · rw [va_va] at g2
      simp only [apl, hg]
      exact g2
theorem m_go {s cnt : Nat} (hW : qW c lg) (h : RM w nn lo tr wt) (hs : s < 5) (hl : (lo s).length ≤ 40) (hR : RV (lo s)) (hcnt : cnt < 2 ^ 31) (htr : tr s = rp ((lo s).take (nn 4 s))) (htl : ∀ i, i < 5 → (tr i).length ≤ 12) (hb : CB nn wt) (hb4 : nn 4 s ≤ min cnt (lo s).length) : ∃ w', fX8_goesOn (c.1 20 0) (nI s) (nI cnt) (qE c lg z w) = some (nI (min cnt (lo s).length - nn 4 s), qE c lg z w') ∧ RM w' (apl s (lo s) (min cnt (lo s).length - nn 4 s) (nn 4 s) (nn, wt)).1 lo (va_up tr s (rp ((lo s).take (min cnt (lo s).length)))) (apl s (lo s) (min cnt (lo s).length - nn 4 s) (nn 4 s) (nn, wt)).2 := by
  obtain ⟨w', e1, e2⟩ := m_go_l (z := z) (e := min cnt (lo s).length) (b := nn 4 s) hW hs hl hR cnt hcnt rfl hb4 (min cnt (lo s).length - nn 4 s) (nn 4 s) w nn tr wt h rfl (by omega) rfl htr htl (by omega) hb 4096 (by omega)
  refine ⟨w', ?_, e2⟩
  rw [Nat.sub_self] at e1
  exact e1
/-- the proposed tree is laid anew -/
theorem m_lays_l {g : Nat} {l : List TX} (hW : qW c lg) (hg : g < 5) (hl : l.length ≤ 40) (hR : RV l) (hlo : lo g = l) (hng : nn 0 6 = g) (htl : ∀ i, i < 5 → (tr i).length ≤ 12) (hb : CB nn wt) : ∀ n j (w : ZZ), RM w nn lo tr wt → MT w 5 (rp (l.take j)) → j + n = l.length → ∀ k, n < k → ∃ w', fX8_laysProposed_9 k (c.1 20 0) (nI j) (qE c lg z w) = some ((), qE c lg z w') ∧ RM w' nn lo tr wt ∧ MT w' 5 (rp l) := by
  intro n
  induction n with
  | zero =>
    intro j w h hT hj k hk
    obtain ⟨k, rfl⟩ : ∃ k', k = k' + 1 := ⟨k - 1, by omega⟩
    have e5 : w 5 0 = nI g := by rw [h.1.1.2.1, hng]
    have e9 : w 9 g = nI l.length := by rw [(h.2.1 g hg).1, hlo]
    refine ⟨w, ?_, h, ?_⟩
    · rw [fX8_laysProposed_9, mR9 hW, mI5 hW, e5, mG9 hW _ _ _ _ hg, e9, jr_t (nI_le (by omega) (by omega))]
      rfl
    · rw [List.take_of_length_le (by omega)] at hT
      exact hT
  | succ n ih =>
    intro j w h hT hj k hk
    obtain ⟨k, rfl⟩ : ∃ k', k = k' + 1 := ⟨k - 1, by omega⟩
    have e5 : w 5 0 = nI g := by rw [h.1.1.2.1, hng]
    have e9 : w 9 g = nI l.length := by rw [(h.2.1 g hg).1, hlo]
    have hjl : j < l.length := by omega
    have hgj : l[j]? = some l[j] := List.getElem?_eq_getElem hjl
    have hX : MX w (40 * g + j) l[j] := (h.2.1 g hg).2 j _ (by rw [hlo]; exact hgj)
    obtain ⟨w1, e1, f1, f2, f3, f4⟩ := m_applies (z := z) hW (show 5 < 6 by omega) (show 40 * g + j < 200 by omega) hT (rp_TV hR j) (hR j _ hgj) hX h.2.2.2.1 h.2.2.2.2.1 hb
    rw [cy_5 (fun v hv => (hb.1.2 v hv).1)] at f2 f3
    have hc := h.car htl f4 f1 f2 f3 (fun k i q1 q2 => rfl)
    have hc2 : RM w1 nn lo tr wt := ⟨hc.1, hc.2.1, fun i hi => by have := hc.2.2.1 i hi; rw [va_n (by omega)] at this; exact this, hc.2.2.2⟩
    rw [← rp_take hgj] at f1
    obtain ⟨w2, g1, g2, g3⟩ := ih (j + 1) w1 hc2 f1 (by omega) k (by omega)
    refine ⟨w2, ?_, g2, g3⟩
    rw [fX8_laysProposed_9, mR9 hW, mI5 hW, e5, mG9 hW _ _ _ _ hg, e9, jr_f (nI_ge (by omega) (by omega)), mI5 hW, mO hW, e5, n40, nI_add, jr_bd (show fX8_applies (c.1 20 0) 5 (nI (40 * g + j)) (qE c lg z w) = _ from e1), nI_1]
    exact g1
theorem m_lays {g : Nat} (hW : qW c lg) (h : RM w nn lo tr wt) (hg : g < 5) (hl : (lo g).length ≤ 40) (hR : RV (lo g)) (hng : nn 0 6 = g) (htl : ∀ i, i < 5 → (tr i).length ≤ 12) (hb : CB nn wt) : ∃ w', fX8_laysProposed (c.1 20 0) (qE c lg z w) = some ((), qE c lg z w') ∧ RM w' nn lo tr wt ∧ MT w' 5 (rp (lo g)) := by
  have h0 : RM (u2 w 15 5 (nI 0)) nn lo tr wt := by
    obtain ⟨h1, h2, h3, h4, h5, h6⟩ := h
    have hF : MF w (u2 w 15 5 (nI 0)) 5 := ⟨fun f q1 _ => u2_k (by omega), fun j hj => u2_i hj, fun f j q1 q2 _ => by rw [u2_k (by omega)]⟩
    exact ⟨h1.fr (fun f q => u2_k (by omega)) (fun _ _ => rfl), fun i hi => (h2 i hi).fr (fun f q1 q2 => u2_k (by omega)), fun i hi => (h3 i hi).ot (htl i hi) hF (by omega), h4.fr (fun f q1 q2 => u2_k (by omega)), h5.fr (u2_k (by omega)) (u2_k (by omega)) rfl rfl rfl, h6.fr (u2_k (by omega))⟩
  obtain ⟨w', e1, e2, e3⟩ := m_lays_l (z := z) hW hg hl hR rfl hng htl hb (lo g).length 0 (u2 w 15 5 (nI 0)) h0 ⟨[], by simp [rp], by rw [u2_s]; rfl, fun j nd hj => by simp at hj⟩ (by omega) 4096 (by omega)
  refine ⟨w', ?_, e2, e3⟩
  unfold fX8_laysProposed
  rw [mR15 hW]
  have e := mS15 hW z w (fX8_laysProposed_9 4096 (c.1 20 0) 0) 5 0 (by omega)
  exact e.trans e1
theorem m_lastlog {s : Nat} (hW : qW c lg) (h : RM w nn lo tr wt) (hs : s < 5) (hl : (lo s).length ≤ 40) : fX8_lastOfLog (c.1 20 0) (nI s) (qE c lg z w) = some (nI (nid (lo s)), qE c lg z w) := by
  have e9 := (h.2.1 s hs).1
  unfold fX8_lastOfLog
  rw [mR9 hW, mG9 hW _ _ _ _ hs, e9]
  by_cases h0 : (lo s).length = 0
  · rw [jr_t (by rw [h0]; rfl), List.eq_nil_of_length_eq_zero h0]
    rfl
  · have hg : (lo s)[(lo s).length - 1]? = some ((lo s)[(lo s).length - 1]'(by omega)) := List.getElem?_eq_getElem (by omega)
    have e : nid (lo s) = ((lo s)[(lo s).length - 1]'(by omega)).1 := by
      unfold nid
      rw [List.getLast?_eq_getElem?, hg]
    rw [jr_f (fun q => h0 ((nI_e0 (by omega)).mp q)), mR10 hW, mR9 hW, mG9 hW _ _ _ _ hs, e9, n40, nI_add, nI_sub1 (by omega), show 40 * s + (lo s).length - 1 = 40 * s + ((lo s).length - 1) by omega, mG10 hW _ _ _ _ (by omega), ((h.2.1 s hs).2 _ _ hg).1, e]
    rfl
theorem m_common_l {s g : Nat} (hW : qW c lg) (h : RM w nn lo tr wt) (hs : s < 5) (hg : g < 5) (hl : (lo s).length ≤ 40) (hl2 : (lo g).length ≤ 40) (hi : ∀ i x, i < 5 → x ∈ lo i → x.1 < 2 ^ 32) : ∀ n j, j + n = (lo s).length → j ≤ (lo g).length → ∀ k, n < k → fX8_common_2 k (c.1 20 0) (nI s) (nI g) (nI j) (qE c lg z w) = some (nI (j + com ((lo s).drop j) ((lo g).drop j)), qE c lg z w) := by
  intro n
  induction n with
  | zero =>
    intro j hj hjg k hk
    obtain ⟨k, rfl⟩ : ∃ k', k = k' + 1 := ⟨k - 1, by omega⟩
    rw [fX8_common_2, mR9 hW, mG9 hW _ _ _ _ hs, (h.2.1 s hs).1, jr_t (nI_le (by omega) (by omega)), List.drop_eq_nil_of_le (show (lo s).length ≤ j by omega)]
    rfl
  | succ n ih =>
    intro j hj hjg k hk
    obtain ⟨k, rfl⟩ : ∃ k', k = k' + 1 := ⟨k - 1, by omega⟩
    have hjl : j < (lo s).length := by omega
    rw [fX8_common_2, mR9 hW, mG9 hW _ _ _ _ hs, (h.2.1 s hs).1, jr_f (nI_ge (by omega) (by omega)), mR9 hW, mG9 hW _ _ _ _ hg, (h.2.1 g hg).1]
    by_cases hjl2 : j < (lo g).length
    · rw [jr_f (nI_ge (by omega) (by omega)), mR10 hW, n40, nI_add, mG10 hW _ _ _ _ (by omega), mR10 hW, n40, nI_add, mG10 hW _ _ _ _ (by omega), ((h.2.1 s hs).2 j _ (List.getElem?_eq_getElem hjl)).1, ((h.2.1 g hg).2 j _ (List.getElem?_eq_getElem hjl2)).1, com_drop hjl hjl2]
      by_cases e : (lo s)[j].1 = (lo g)[j].1
      · rw [if_pos e, jr_t (by rw [e]), nI_1, ih (j + 1) (by omega) (by omega) k (by omega)]
        congr 3
        omega
      · rw [if_neg e, jr_f (fun q => e ((nI_inj (hi s _ hs (List.getElem_mem hjl)) (hi g _ hg (List.getElem_mem hjl2))).mp q))]
        rfl
    · rw [jr_t (nI_le (by omega) (by omega)), List.drop_eq_nil_of_le (show (lo g).length ≤ j by omega)]
      have e : com ((lo s).drop j) [] = 0 := by
        cases (lo s).drop j <;> rfl
      rw [e]
      rfl
theorem m_common {s g : Nat} (hW : qW c lg) (h : RM w nn lo tr wt) (hs : s < 5) (hg : g < 5) (hl : (lo s).length ≤ 40) (hl2 : (lo g).length ≤ 40) (hi : ∀ i x, i < 5 → x ∈ lo i → x.1 < 2 ^ 32) : fX8_common (c.1 20 0) (nI s) (nI g) (qE c lg z w) = some (nI (com (lo s) (lo g)), qE c lg z w) := by
  have e := m_common_l (z := z) hW h hs hg hl hl2 hi (lo s).length 0 (by omega) (by omega) 4096 (by omega)
  rw [List.drop_zero, List.drop_zero, Nat.zero_add] at e
  exact e
/-- a transaction put behind log s -/
theorem RM.put {s : Nat} {x : TX} (h : RM w nn lo tr wt) (hs : s < 5) (hll : ∀ i, i < 5 → (lo i).length ≤ 40) (hl : (lo s).length < 40) : RM (u2 (u2 (u2 (u2 (u2 (u2 w 10 (40 * s + (lo s).length) (nI x.1)) 11 (40 * s + (lo s).length) (nI x.2.1)) 12 (40 * s + (lo s).length) (nI (p7 x.2.2.1))) 13 (40 * s + (lo s).length) (nI x.2.2.2.1)) 14 (40 * s + (lo s).length) (nI x.2.2.2.2)) 9 s (nI ((lo s).length + 1))) nn (va_up lo s (lo s ++ [x])) tr wt := by
  have hne : ∀ i j, i < 5 → j < 40 → ¬ (i = s ∧ j = (lo s).length) → 40 * i + j ≠ 40 * s + (lo s).length := fun i j _ _ _ => by omega
  have hold : ∀ i j (y : TX), i < 5 → j < 40 → ¬ (i = s ∧ j = (lo s).length) → MX w (40 * i + j) y → MX (u2 (u2 (u2 (u2 (u2 (u2 w 10 (40 * s + (lo s).length) (nI x.1)) 11 (40 * s + (lo s).length) (nI x.2.1)) 12 (40 * s + (lo s).length) (nI (p7 x.2.2.1))) 13 (40 * s + (lo s).length) (nI x.2.2.2.1)) 14 (40 * s + (lo s).length) (nI x.2.2.2.2)) 9 s (nI ((lo s).length + 1))) (40 * i + j) y := by
    intro i j y h1 h2 h3 hy
    have hn := hne i j h1 h2 h3
    have e : ∀ (w : ZZ) (k f : Nat) (v : Int32), u2 w k (40 * s + (lo s).length) v f (40 * i + j) = w f (40 * i + j) := fun w k f v => by unfold u2; rw [if_neg (fun q => hn q.2)]
    unfold MX
    rw [u2_k (show (10 : Nat) ≠ 9 by decide), u2_k (show (11 : Nat) ≠ 9 by decide), u2_k (show (12 : Nat) ≠ 9 by decide), u2_k (show (13 : Nat) ≠ 9 by decide), u2_k (show (14 : Nat) ≠ 9 by decide)]
    simp only [e]
    exact hy
  refine h.log (fun f hf => by rw [u2_k (by omega), u2_k (by omega), u2_k (by omega), u2_k (by omega), u2_k (by omega), u2_k (by omega)]) (fun i hi his => ⟨?_, fun j y hj => ?_⟩) ⟨?_, fun j y hj => ?_⟩
  · rw [u2_i his, u2_k (by decide), u2_k (by decide), u2_k (by decide), u2_k (by decide), u2_k (by decide)]
    exact (h.2.1 i hi).1
  · have := (List.getElem?_eq_some_iff.mp hj).1
    have := hll i hi
    exact hold i j y hi (by omega) (fun q => his q.1) ((h.2.1 i hi).2 j y hj)
  · rw [u2_s, List.length_append]
    rfl
  · by_cases hjl : j < (lo s).length
    · rw [List.getElem?_append_left hjl] at hj
      exact hold s j y hs (by omega) (fun q => by omega) ((h.2.1 s hs).2 j y hj)
    · have hj2 := (List.getElem?_eq_some_iff.mp hj).1
      rw [List.length_append] at hj2
      have hj3 : j = (lo s).length := by simp at hj2; omega
      subst hj3
      simp at hj
      subst hj
      refine ⟨?_, ?_, ?_, ?_, ?_⟩ <;> simp [u2]
theorem m_becomes_l {s g a cm : Nat} (hW : qW c lg) (hs : s < 5) (hg : g < 5) (hsg : s ≠ g) (hng : nn 0 6 = g) (hcm : cm ≤ 40) : ∀ n j (w : ZZ) (lo : Nat → List TX), RM w nn lo tr wt → (∀ i, i < 5 → (lo i).length ≤ 40) → (lo s).length = j → j + n = (lo g).length → cm ≤ (lo g).length → ∀ k, n < k → ∃ w', fX8_becomesLike_29 k (c.1 20 0) (nI s) (nI cm) (nI a) (nI j) (qE c lg z w) = some (nI (100 * a + ((lo g).length - cm)), qE c lg z w') ∧ RM w' (n2 nn 2 s 1) (va_up lo s (lo s ++ (lo g).drop j)) tr wt := by
  intro n
  induction n with
  | zero =>
    intro j w lo h hll hj hjn hcg k hk
    obtain ⟨k, rfl⟩ : ∃ k', k = k' + 1 := ⟨k - 1, by omega⟩
    have e5 : w 5 0 = nI g := by rw [h.1.1.2.1, hng]
    have e9 := (h.2.1 g hg).1
    have hs2 := h.sv (k := 2) (i := s) (v := 1) (by omega) (by omega)
    have hgl := hll g hg
    refine ⟨u2 w 2 s (nI 1), ?_, by rw [List.drop_eq_nil_of_le (by omega), List.append_nil, va_self]; exact hs2⟩
    · rw [fX8_becomesLike_29, mR9 hW, mI5 hW, e5, mG9 hW _ _ _ _ hg, e9, jr_t (nI_le (by omega) (by omega)), mR2 hW, jZ1, mS2 hW _ _ _ _ _ hs, mR9 hW, mI5 hW, u2_k (by decide), e5, mG9 hW _ _ _ _ hg, u2_k (by decide), e9, n100, nI_add, nI_sub (by omega), show 100 * a + (lo g).length - cm = 100 * a + ((lo g).length - cm) by omega]
      rfl
  | succ n ih =>
    intro j w lo h hll hj hjn hcg k hk
    obtain ⟨k, rfl⟩ : ∃ k', k = k' + 1 := ⟨k - 1, by omega⟩
    have e5 : w 5 0 = nI g := by rw [h.1.1.2.1, hng]
    have e9 := (h.2.1 g hg).1
    have e9s := (h.2.1 s hs).1
    have hgl := hll g hg
    have hjg : j < (lo g).length := by omega
    obtain ⟨x0, x1, x2, x3, x4⟩ := (h.2.1 g hg).2 j _ (List.getElem?_eq_getElem hjg)
    have ht : fX8_takes (c.1 20 0) (nI s) (nI j) (qE c lg z w) = some ((), qE c lg z (u2 (u2 (u2 (u2 (u2 (u2 w 10 (40 * s + (lo s).length) (nI (lo g)[j].1)) 11 (40 * s + (lo s).length) (nI (lo g)[j].2.1)) 12 (40 * s + (lo s).length) (nI (p7 (lo g)[j].2.2.1))) 13 (40 * s + (lo s).length) (nI (lo g)[j].2.2.2.1)) 14 (40 * s + (lo s).length) (nI (lo g)[j].2.2.2.2)) 9 s (nI ((lo s).length + 1)))) := by
      unfold fX8_takes
      simp (disch := omega) only [↓mI5 hW, ↓mP5 hW, ↓mR9 hW, ↓mG9 hW, ↓mS9 hW, ↓mR10 hW, ↓mG10 hW, ↓mS10 hW, ↓mR11 hW, ↓mG11 hW, ↓mS11 hW, ↓mR12 hW, ↓mG12 hW, ↓mS12 hW, ↓mR13 hW, ↓mG13 hW, ↓mS13 hW, ↓mR14 hW, ↓mG14 hW, ↓mS14 hW, ↓mO hW, ↓jZ0, ↓jZ1, ↓jRt, nI_add, nI_1, n7, n8, n10, n12, n40, e5, e9s, u2_k, x0, x1, x2, x3, x4]
    have hp := h.put (x := (lo g)[j]) hs hll (by omega)
    have eg : va_up lo s (lo s ++ [(lo g)[j]]) g = lo g := va_n (Ne.symm hsg)
    obtain ⟨w', f1, f2⟩ := ih (j + 1) _ _ hp (fun i hi => by
      by_cases q : i = s
      · subst q; rw [va_s, List.length_append]; simp; omega
      · rw [va_n q]; exact hll i hi) (by rw [va_s, List.length_append, hj]; rfl) (by rw [eg]; omega) (by rw [eg]; exact hcg) k (by omega)
    refine ⟨w', ?_, ?_⟩
    · rw [fX8_becomesLike_29, mR9 hW, mI5 hW, e5, mG9 hW _ _ _ _ hg, e9, jr_f (nI_ge (by omega) (by omega)), mO hW, jr_bd ht, nI_1]
      rw [eg] at f1
      exact f1
    · rw [va_va, va_s, eg, List.append_assoc, List.singleton_append, ← List.drop_eq_getElem_cons hjg] at f2
      exact f2
theorem m_becomes {s g : Nat} (hW : qW c lg) (h : RM w nn lo tr wt) (hs : s < 5) (hg : g < 5) (hsg : s ≠ g) (hng : nn 0 6 = g) (hll : ∀ i, i < 5 → (lo i).length ≤ 40) (hi : ∀ i x, i < 5 → x ∈ lo i → x.1 < 2 ^ 32) : ∃ w', fX8_becomesLike (c.1 20 0) (nI s) (qE c lg z w) = some (nI (100 * ((lo s).length - com (lo s) (lo g)) + ((lo g).length - com (lo s) (lo g))), qE c lg z w') ∧ RM w' (n2 nn 2 s 1) (va_up lo s ((lo s).take (com (lo s) (lo g)) ++ (lo g).drop (com (lo s) (lo g)))) tr wt := by
  have hc := com_le (lo s) (lo g)
  have e5 : w 5 0 = nI g := by rw [h.1.1.2.1, hng]
  have e9s := (h.2.1 s hs).1
  have hsl := hll s hs
  have hgl := hll g hg
  have h1 : RM (u2 w 9 s (nI (com (lo s) (lo g)))) nn (va_up lo s ((lo s).take (com (lo s) (lo g)))) tr wt := by
    refine h.log (fun f hf => u2_k (by omega)) (fun i hi hn => ⟨?_, fun j x hj => ?_⟩) ⟨?_, fun j x hj => ?_⟩
    · rw [u2_i hn]
      exact (h.2.1 i hi).1
    · rw [u2_k (by decide), u2_k (by decide), u2_k (by decide), u2_k (by decide), u2_k (by decide)]
      exact (h.2.1 i hi).2 j x hj
    · rw [u2_s, List.length_take, Nat.min_eq_left hc.1]
    · rw [u2_k (by decide), u2_k (by decide), u2_k (by decide), u2_k (by decide), u2_k (by decide)]
      rw [List.getElem?_take] at hj
      split at hj
      · exact (h.2.1 s hs).2 j x hj
      · cases hj
  have eg : va_up lo s ((lo s).take (com (lo s) (lo g))) g = lo g := va_n (Ne.symm hsg)
  obtain ⟨w', f1, f2⟩ := m_becomes_l (z := z) (a := (lo s).length - com (lo s) (lo g)) (cm := com (lo s) (lo g)) hW hs hg hsg hng (by omega) ((lo g).length - com (lo s) (lo g)) (com (lo s) (lo g)) _ _ h1 (fun i hi => by
    by_cases q : i = s
    · subst q; rw [va_s, List.length_take]; omega
    · rw [va_n q]; exact hll i hi) (by rw [va_s, List.length_take]; omega) (by rw [eg]; omega) (by rw [eg]; exact hc.2) 4096 (by omega)
  refine ⟨w', ?_, ?_⟩
  · unfold fX8_becomesLike
    rw [mI5 hW, mO hW, e5, jr_bd (m_common hW h hs hg hsl hgl hi), mR9 hW, mG9 hW _ _ _ _ hs, e9s, mR9 hW, mS9 hW _ _ _ _ _ hs, nI_sub hc.1]
    rw [eg] at f1
    exact f1
  · rw [va_va, va_s, eg] at f2
    exact f2
theorem m_closed_l {g ses : Nat} (hW : qW c lg) (h : RM w nn lo tr wt) (hg : g < 5) (hng : nn 0 6 = g) (hl : (lo g).length ≤ 40) (hses : ses < 2 ^ 32) (hi : ∀ x, x ∈ lo g → x.2.1 < 2 ^ 32 ∧ x.2.2.2.2 < 2 ^ 32) : ∀ n j, j + n = (lo g).length → ∀ k, n < k → fX8_isClosed_2 k (c.1 20 0) (nI ses) (nI j) (qE c lg z w) = some (if hcl ses ((lo g).drop j) = true then 1 else 0, qE c lg z w) := by
  have e5 : w 5 0 = nI g := by rw [h.1.1.2.1, hng]
  have e9 := (h.2.1 g hg).1
  intro n
  induction n with
  | zero =>
    intro j hj k hk
    obtain ⟨k, rfl⟩ : ∃ k', k = k' + 1 := ⟨k - 1, by omega⟩
    rw [fX8_isClosed_2, mR9 hW, mI5 hW, e5, mG9 hW _ _ _ _ hg, e9, jr_t (nI_le (by omega) (by omega)), List.drop_eq_nil_of_le (by omega)]
    rfl
  | succ n ih =>
    intro j hj k hk
    obtain ⟨k, rfl⟩ : ∃ k', k = k' + 1 := ⟨k - 1, by omega⟩
    have hjl : j < (lo g).length := by omega
    obtain ⟨x0, x1, x2, x3, x4⟩ := (h.2.1 g hg).2 j _ (List.getElem?_eq_getElem hjl)
    obtain ⟨i1, i2⟩ := hi _ (List.getElem_mem hjl)
    rw [fX8_isClosed_2, mR9 hW, mI5 hW, e5, mG9 hW _ _ _ _ hg, e9, jr_f (nI_ge (by omega) (by omega)), mR11 hW, mI5 hW, e5, n40, nI_add, mG11 hW _ _ _ _ (by omega), x1, List.drop_eq_getElem_cons hjl]
    by_cases e3 : (lo g)[j].2.1 = 3
    · rw [jr_t (by rw [e3]; rfl), mR14 hW, mI5 hW, e5, n40, nI_add, mG14 hW _ _ _ _ (by omega), x4]
      by_cases e4 : (lo g)[j].2.2.2.2 = ses
      · rw [jr_t (by rw [e4]), hcl_t ⟨e3, e4⟩]
        rfl
      · rw [jr_f (fun q => e4 ((nI_inj i2 hses).mp q)), nI_1, ih (j + 1) (by omega) k (by omega), hcl_f (fun q => e4 q.2)]
    · rw [jr_f (show ¬ nI (lo g)[j].2.1 = 3 from fun q => e3 ((nI_inj (b := 3) i1 (by omega)).mp q)), nI_1, ih (j + 1) (by omega) k (by omega), hcl_f (fun q => e3 q.1)]
theorem m_closed {g ses : Nat} (hW : qW c lg) (h : RM w nn lo tr wt) (hg : g < 5) (hng : nn 0 6 = g) (hl : (lo g).length ≤ 40) (hses : ses < 2 ^ 32) (hi : ∀ x, x ∈ lo g → x.2.1 < 2 ^ 32 ∧ x.2.2.2.2 < 2 ^ 32) : fX8_isClosed (c.1 20 0) (nI ses) (qE c lg z w) = some (if hcl ses (lo g) = true then 1 else 0, qE c lg z w) := by
  have e := m_closed_l (z := z) hW h hg hng hl hses hi (lo g).length 0 (by omega) 4096 (by omega)
  rw [List.drop_zero] at e
  exact e
theorem m_proposes {g kind p d o : Nat} (hW : qW c lg) (h : RM w nn lo tr wt) (hg : g < 5) (hng : nn 0 6 = g) (hll : ∀ i, i < 5 → (lo i).length ≤ 40) : ∃ w', fX8_proposes (c.1 20 0) (nI kind) (nI (p7 p)) (nI d) (nI o) (qE c lg z w) = (if (lo g).length = 40 then some (-7, qE c lg z w) else some (nI (1000 * nn 0 7 + (nn 0 8 + 1)), qE c lg z w')) ∧ ((lo g).length < 40 → RM w' (n2 nn 0 8 (nn 0 8 + 1)) (va_up lo g (lo g ++ [(1000 * nn 0 7 + (nn 0 8 + 1), kind, p, d, o)])) tr wt) := by
  have e5 : w 5 0 = nI g := by rw [h.1.1.2.1, hng]
  have e9 := (h.2.1 g hg).1
  have e6 := h.1.1.2.2.1
  have e7 := h.1.1.2.2.2.1
  have hgl := hll g hg
  have h1 := h.sc (a := 7) (b := 8) (v := nn 0 8 + 1) (by decide)
  by_cases h40 : (lo g).length = 40
  · refine ⟨w, ?_, fun q => by omega⟩
    rw [if_pos h40]
    unfold fX8_proposes
    rw [mR9 hW, mI5 hW, e5, mG9 hW _ _ _ _ hg, e9, jr_t (by rw [h40]; rfl)]
    rfl
  · have h2 := h1.put (x := (1000 * nn 0 7 + (nn 0 8 + 1), kind, p, d, o)) hg hll (by omega)
    refine ⟨_, ?_, fun _ => h2⟩
    rw [if_neg h40]
    unfold fX8_proposes
    rw [mR9 hW, mI5 hW, e5, mG9 hW _ _ _ _ hg, e9, jr_f (show ¬ nI (lo g).length = 40 from fun q => h40 ((nI_eq (b := 40) (by omega) (by omega)).mp q))]
    simp (disch := omega) only [↓mI5 hW, ↓mP5 hW, ↓mI6 hW, ↓mP6 hW, ↓mI7 hW, ↓mP7 hW, ↓mR9 hW, ↓mG9 hW, ↓mS9 hW, ↓mR10 hW, ↓mG10 hW, ↓mS10 hW, ↓mR11 hW, ↓mG11 hW, ↓mS11 hW, ↓mR12 hW, ↓mG12 hW, ↓mS12 hW, ↓mR13 hW, ↓mG13 hW, ↓mS13 hW, ↓mR14 hW, ↓mG14 hW, ↓mS14 hW, ↓mO hW, ↓jZ0, ↓jZ1, ↓jRt, nI_add, nI_1, n7, n8, n10, n12, n40, e5, e9, e6, e7, u2_k, u2_s, n1000]
end MG
