/-! ===== create, setData, delete, closeSession ===== -/
section C4
variable {c : CX} {lg : LG} {z w : ZZ} {N : Nat} {nn : NN} {lo : Nat → List TX} {tr : Nat → List ND} {wt : List WT}
theorem GO.of {fx fm fx' fm' : Nat → jm_P Int32} (h : GO fx fm c lg z w N) (hx : fx' (c.1 0 0) (qE c lg z w) = fx (c.1 0 0) (qE c lg z w)) (hm : ∀ (c' : CX) (lg' : LG) (z' : ZZ), qW c' lg' → fm' (c'.1 20 0) (qE c' lg' z' w) = fm (c'.1 20 0) (qE c' lg' z' w)) : GO fx' fm' c lg z w N := by
  obtain ⟨v, c', lg', z', w', nn', lo', tr', wt', h1, h2, h3, h4, h5, h6⟩ := h
  exact ⟨v, c', lg', z', w', nn', lo', tr', wt', hx.trans h1, (hm c' lg' z' h3.1).trans h2, h3, h4, h5, h6⟩
/-- the reference lays the proposed tree and says no -/
theorem GO.lay {fx fm : Nat → jm_P Int32} {v : Int32} {w' : ZZ} (hX : RX c lg z nn lo tr wt) (hM : RM w' nn lo tr wt) (hI : INV N nn lo tr wt) (h1 : fx (c.1 0 0) (qE c lg z w) = some (v, qE c lg z w)) (h2 : fm (c.1 20 0) (qE c lg z w) = some (v, qE c lg z w')) : GO fx fm c lg z w N :=
  ⟨v, c, lg, z, w', nn, lo, tr, wt, h1, h2, hX, hM, hI.succ, KE.rfl.mono (by omega) (by omega)⟩
theorem INV_lead (h : INV N nn lo tr wt) : nn 0 6 = 4294967288 ∨ (nn 0 6 < 5 ∧ tr 5 = rp (lo (nn 0 6)) ∧ TV (tr 5) ∧ ∀ x, x ∈ lo (nn 0 6) → x.2.1 < 2 ^ 32 ∧ x.2.2.2.2 < 2 ^ 32 ∧ (x.2.1 = 3 → x.2.2.2.2 < 6)) := by
  rcases h.2.2.1 with q | ⟨q1, q2, q3⟩
  · exact Or.inl q.1
  · refine Or.inr ⟨q1, q3, ?_, fun x hx => ?_⟩
    · rw [q3]
      have := rp_TV (h.2.2.2.2.1 _ q1).2.1 (lo (nn 0 6)).length
      rwa [List.take_of_length_le (Nat.le_refl _)] at this
    · obtain ⟨k, hk⟩ := List.getElem?_of_mem hx
      obtain ⟨v1, v2, v3, v4, v5, v6, v7⟩ := (h.2.2.2.2.1 _ q1).2.1 k x hk
      exact ⟨by omega, v3, v7⟩
theorem x_can {p : Nat} (hX : RX c lg z nn lo tr wt) (hp : okp p = true) (ht : TV (tr 5)) : fX4_canHaveChildren (c.1 3 5) (nI p) (qE c lg z w) = some (if p = 0 ∨ ∃ nd, nd ∈ tr 5 ∧ nd.1 = p ∧ nd.2.2.2 = 4294967288 then 1 else 0, qE c lg z w) := by
  have hlt := okp_lt hp
  unfold fX4_canHaveChildren
  by_cases h0 : p = 0
  · rw [jr_t (by rw [h0]; rfl), if_pos (Or.inl h0)]; rfl
  · rw [jr_f (fun e => h0 ((nI_e0 (by omega)).mp e)), tO hX.1 _ _ _ _ (by omega)]
    by_cases hex : ∃ nd, nd ∈ tr 5 ∧ nd.1 = p
    · obtain ⟨nd, n1, n3⟩ := hex
      obtain ⟨m, m1, m2, m3⟩ := x_fnd w hX (show 5 < 6 by omega) hp ht n1 n3
      have ho := (ht.2.1 nd n1).2.2
      rw [jr_bd m2, jr_f (by simp), nI3_ hX.1 _ _ _ _ (by omega), (slot_some m3).2.2.2.1]
      by_cases e : nd.2.2.2 = 4294967288
      · rw [jr_t (by rw [e, m8_]), if_pos (Or.inr ⟨nd, n1, n3, e⟩)]; rfl
      · rw [jr_f (by rw [m8_]; exact fun q => e ((nI_inj ho (by omega)).mp q)), if_neg]
        · rfl
        · rintro (q | ⟨nd', q1, q2, q3⟩)
          · exact h0 q
          · rw [nodup_eq ht.1 q1 n1 (by rw [q2, n3])] at q3
            exact e q3
    · rw [jr_bd (x_nfd w hX (by omega) hp (fun nd h1 h2 => hex ⟨nd, h1, h2⟩)), jr_t rfl, if_neg]
      · rfl
      · rintro (q | ⟨nd', q1, q2, q3⟩)
        · exact h0 q
        · exact hex ⟨nd', q1, q2⟩
theorem hclN {l : List TX} (h : ∀ x, x ∈ l → x.2.1 = 3 → x.2.2.2.2 < 6) : hcl 4294967288 l = false := by
  unfold hcl
  rw [List.any_eq_false]
  intro x hx
  simp only [Bool.and_eq_true, beq_iff_eq]
  rintro ⟨q1, q2⟩
  have := h x hx q1
  omega
theorem create_low {d o : Nat} (hX : RX c lg z nn lo tr wt) (hM : RM w nn lo tr wt) (hI : INV N nn lo tr wt) (hN : N < 600) (hd : d < 1000) (ho : o = 4294967288 ∨ o < nn 0 5) : GO (fun a => fX7_create_23 a (nI d) (nI o)) (fun a => fX8_create_28 a (nI d) (nI o)) c lg z w N := by
  have hW := hX.1
  have hok := hI.1.2.2.2.1
  have hlt := okp_lt hok
  obtain ⟨-, b7, -, b9, b10, b8⟩ := ok_all hok
  have b11 := (ok_all b10).2.1
  have b12 := (ok_all b10).2.2.2.2.2
  have ho32 : o < 2 ^ 32 := by have := hI.1.2.2.1; omega
  rcases INV_lead hI with hl | ⟨hg, h5, hTV, hxs⟩
  · refine GO.read (v := -2) hX hM hI ?_ ?_
    · simp only [fX7_create_23]
      rw [xR6 hW, hX.2.1 0 6 rfl, hl, chf_n, jr_t rfl]; rfl
    · simp only [fX8_create_28]
      rw [mI5 hW, hM.1.1.2.1, hl, ← m8_, jr_t rfl]; rfl
  · have hgl := hI.ll _ hg
    have hR := (hI.2.2.2.2.1 _ hg).2.1
    have hxc := x_closed w hX hg hgl ho32
    have hmc : ∀ (c' : CX) (lg' : LG) (z' : ZZ), qW c' lg' → fX8_isClosed (c'.1 20 0) (nI o) (qE c' lg' z' w) = some (if hcl o (lo (nn 0 6)) = true then 1 else 0, qE c' lg' z' w) := fun c' lg' z' hW' => m_closed hW' hM hg rfl hgl ho32 (fun x hx => ⟨(hxs x hx).1, (hxs x hx).2.1⟩)
    -- the reference up to the laying
    have hpre : hcl o (lo (nn 0 6)) = false → ∀ (c' : CX) (lg' : LG) (z' : ZZ), qW c' lg' → fX8_create_28 (c'.1 20 0) (nI d) (nI o) (qE c' lg' z' w) = fX8_create_54 (c'.1 20 0) (nI d) (nI o) (qE c' lg' z' w) := by
      intro hc c' lg' z' hW'
      unfold fX8_create_28
      rw [mI5 hW', hM.1.1.2.1, jr_f (ldn hg)]
      by_cases e : nI o = -8
      · rw [jr_t e]
      · rw [jr_f e, mO hW', jr_bd (hmc c' lg' z' hW'), hc, show (if (false = true) then (1 : Int32) else 0) = 0 from rfl, jr_t rfl]
    by_cases hc : hcl o (lo (nn 0 6)) = true
    · have hoN : ¬ nI o = -8 := by
        intro e
        rw [m8_] at e
        rw [(nI_inj ho32 (by omega)).mp e, hclN (fun x hx q => (hxs x hx).2.2 q)] at hc
        cases hc
      refine GO.read (v := -2) hX hM hI ?_ ?_
      · simp only [fX7_create_23]
        rw [xR6 hW, hX.2.1 0 6 rfl, chf_s hg, jr_f (by simp), xR6 hW, hX.2.1 0 6 rfl, chf_s hg, sO hW _ _ _ _ hg, jr_bd hxc, if_pos hc, jr_f (by decide)]; rfl
      · simp only [fX8_create_28]
        rw [mI5 hW, hM.1.1.2.1, jr_f (ldn hg), jr_f hoN, mO hW, jr_bd (hmc c lg z hW), if_pos hc, jr_f (by decide)]; rfl
    · have hc' : hcl o (lo (nn 0 6)) = false := by simpa using hc
      have hxc0 : fX1_hasClosed (c.1 2 (nn 0 6)) (nI o) (qE c lg z w) = some (0, qE c lg z w) := by rw [hxc, hc']; rfl
      have hlay : ∀ (c' : CX) (lg' : LG) (z' : ZZ), qW c' lg' → ∃ w1, fX8_laysProposed (c'.1 20 0) (qE c' lg' z' w) = some ((), qE c' lg' z' w1) ∧ RM w1 nn lo tr wt ∧ MT w1 5 (tr 5) := fun c' lg' z' hW' => by
        have := m_lays (z := z') hW' hM hg hgl hR rfl hI.tl (hI.CB (by omega))
        rw [← h5] at this
        exact this
      by_cases hp0 : nn 0 10 = 0
      · obtain ⟨w1, l1, l2, l3⟩ := hlay c lg z hW
        refine GO.lay (v := -4) hX l2 hI ?_ ?_
        · simp only [fX7_create_23]
          rw [xR6 hW, hX.2.1 0 6 rfl, chf_s hg, jr_f (by simp), xR6 hW, hX.2.1 0 6 rfl, chf_s hg, sO hW _ _ _ _ hg, jr_bd hxc0, jr_t rfl, xI10 hW, hX.2.1 0 10 rfl, jr_t (by rw [hp0]; rfl)]; rfl
        · simp only [hpre hc' c lg z hW, fX8_create_54]
          rw [mO hW, jr_bd l1, mO hW, jr_bd (m_path hW l2), jr_t (by rw [b8.mp hp0]; rfl)]; rfl
      · have hp0x : ¬ nI (nn 0 10) = 0 := fun e => hp0 ((nI_e0 (by omega)).mp e)
        have hp0m : ¬ nI (p7 (nn 0 10)) = 0 := fun e => hp0 (b8.mpr ((nI_e0 (by omega)).mp e))
        by_cases hex : ∃ nd, nd ∈ tr 5 ∧ nd.1 = nn 0 10
        · obtain ⟨nd, n1, n3⟩ := hex
          obtain ⟨w1, l1, l2, l3⟩ := hlay c lg z hW
          obtain ⟨m, m1, m2, m3⟩ := x_fnd w hX (show 5 < 6 by omega) hok hTV n1 n3
          obtain ⟨m', m1', m2', -⟩ := m_fnd (z := z) hW l3 (show 5 < 6 by omega) hok hTV n1 n3
          refine GO.lay (v := -4) hX l2 hI ?_ ?_
          · simp only [fX7_create_23]
            rw [xR6 hW, hX.2.1 0 6 rfl, chf_s hg, jr_f (by simp), xR6 hW, hX.2.1 0 6 rfl, chf_s hg, sO hW _ _ _ _ hg, jr_bd hxc0, jr_t rfl, xI10 hW, hX.2.1 0 10 rfl, jr_f hp0x, xR3 hW, xI10 hW, hX.2.1 0 10 rfl, tO hW _ _ _ _ (by omega), jr_bd m2, jr_f (by simp)]; rfl
          · simp only [hpre hc' c lg z hW, fX8_create_54]
            rw [mO hW, jr_bd l1, mO hW, jr_bd (m_path hW l2), jr_f hp0m, mO hW, jr_bd (show fX8_find (c.1 20 0) 5 (nI (p7 (nn 0 10))) (qE c lg z w1) = _ from m2'), jr_f (by rw [m8_]; intro e; have := (nI_inj (by omega) (by omega)).mp e; omega)]; rfl
        · have hnex : ∀ nd, nd ∈ tr 5 → nd.1 ≠ nn 0 10 := fun nd h1 h2 => hex ⟨nd, h1, h2⟩
          have hxc2 := x_can (w := w) (p := nn 0 10 / 8) hX b10 hTV
          -- the reference's look at the parent
          have hpar : ∀ (c' : CX) (lg' : LG) (z' : ZZ) (w1 : ZZ), qW c' lg' → RM w1 nn lo tr wt → MT w1 5 (tr 5) → fX8_laysProposed (c'.1 20 0) (qE c' lg' z' w) = some ((), qE c' lg' z' w1) → fX8_create_54 (c'.1 20 0) (nI d) (nI o) (qE c' lg' z' w) = if nn 0 10 / 8 = 0 ∨ ∃ nd, nd ∈ tr 5 ∧ nd.1 = nn 0 10 / 8 ∧ nd.2.2.2 = 4294967288 then fX8_create_123 (c'.1 20 0) (nI d) (nI o) (nI (p7 (nn 0 10))) (qE c' lg' z' w1) else some (-3, qE c' lg' z' w1) := by
            intro c' lg' z' w1 hW' l2 l3 l1
            unfold fX8_create_54
            rw [mO hW', jr_bd l1, mO hW', jr_bd (m_path hW' l2), jr_f hp0m, mO hW', jr_bd (show fX8_find (c'.1 20 0) 5 (nI (p7 (nn 0 10))) (qE c' lg' z' w1) = _ from m_nfd (i := 5) hW' l3 (by decide) hok hTV hnex), jr_t rfl, jr_bd (m_parent b7), b9, mO hW']
            by_cases hq : ∃ nd, nd ∈ tr 5 ∧ nd.1 = nn 0 10 / 8
            · obtain ⟨nd, n1, n3⟩ := hq
              obtain ⟨m', m1', m2', m3', m4'⟩ := m_fnd (z := z') hW' l3 (show 5 < 6 by omega) b10 hTV n1 n3
              have hno := (hTV.2.1 nd n1).2.2
              rw [jr_bd (show fX8_find (c'.1 20 0) 5 (nI (p7 (nn 0 10 / 8))) (qE c' lg' z' w1) = _ from m2')]
              by_cases q0 : nn 0 10 / 8 = 0
              · rw [if_pos (Or.inl q0), jr_t (by rw [b12.mp q0]; rfl)]
              · rw [jr_f (fun e => q0 (b12.mpr ((nI_e0 (by omega)).mp e))), jr_f (by rw [m8_]; intro e; have := (nI_inj (by omega) (by omega)).mp e; omega), mR19 hW', mG19 hW' _ _ _ _ (by omega), m4']
                by_cases e : nd.2.2.2 = 4294967288
                · rw [if_pos (Or.inr ⟨nd, n1, n3, e⟩), jr_t (by rw [e, m8_])]
                · rw [jr_f (by rw [m8_]; exact fun q => e ((nI_inj hno (by omega)).mp q)), if_neg]
                  · rfl
                  · rintro (q | ⟨nd', q1, q2, q3⟩)
                    · exact q0 q
                    · rw [nodup_eq hTV.1 q1 n1 (by rw [q2, n3])] at q3
                      exact e q3
            · rw [jr_bd (show fX8_find (c'.1 20 0) 5 (nI (p7 (nn 0 10 / 8))) (qE c' lg' z' w1) = _ from m_nfd (i := 5) hW' l3 (by decide) b10 hTV (fun nd h1 h2 => hq ⟨nd, h1, h2⟩))]
              by_cases q0 : nn 0 10 / 8 = 0
              · rw [if_pos (Or.inl q0), jr_t (by rw [b12.mp q0]; rfl)]
              · rw [jr_f (fun e => q0 (b12.mpr ((nI_e0 (by omega)).mp e))), jr_t rfl, if_neg]
                · rfl
                · rintro (q | ⟨nd', q1, q2, q3⟩)
                  · exact q0 q
                  · exact hq ⟨nd', q1, q2⟩
          by_cases hcan : nn 0 10 / 8 = 0 ∨ ∃ nd, nd ∈ tr 5 ∧ nd.1 = nn 0 10 / 8 ∧ nd.2.2.2 = 4294967288
          · rw [if_pos hcan] at hxc2
            have hxs2 := x_size (z := z) (w := w) hW (show 5 < 6 by omega)
            rw [(hX.2.2.2 5 (by omega)).length_eq] at hxs2
            by_cases h12 : (tr 5).length = 12
            · obtain ⟨w1, l1, l2, l3⟩ := hlay c lg z hW
              obtain ⟨r, r1, r2, -⟩ := id l3
              refine GO.lay (v := -7) hX l2 hI ?_ ?_
              · simp only [fX7_create_23]
                rw [xR6 hW, hX.2.1 0 6 rfl, chf_s hg, jr_f (by simp), xR6 hW, hX.2.1 0 6 rfl, chf_s hg, sO hW _ _ _ _ hg, jr_bd hxc0, jr_t rfl, xI10 hW, hX.2.1 0 10 rfl, jr_f hp0x, xR3 hW, xI10 hW, hX.2.1 0 10 rfl, tO hW _ _ _ _ (by omega), jr_bd (x_nfd w hX (by omega) hok hnex), jr_t rfl, xR3 hW, xI10 hW, hX.2.1 0 10 rfl, jr_bd (x_parent hlt), tO hW _ _ _ _ (by omega), jr_bd hxc2, jr_f (by decide), xR3 hW, tO hW _ _ _ _ (by omega), jr_bd hxs2, h12, jr_f (by decide +kernel)]; rfl
              · simp only [hpre hc' c lg z hW]
                rw [hpar c lg z w1 hW l2 l3 l1, if_pos hcan]
                unfold fX8_create_123
                rw [mR15 hW]
                have e15 := mG15 hW z w1 (fun v16 => (if v16 = 12 then jm_ret (-7) else jm_rd (jm_o (some (c.1 20 0)) 9) fun a18 => jm_bd (fX8_proposes a18 0 (nI (p7 (nn 0 10))) (nI d) (nI o)) fun v18 => jm_ret v18)) 5 (by omega)
                refine e15.trans ?_
                rw [r2, r1.length_eq, h12, jr_t (show nI 12 = 12 from rfl)]; rfl
            · have hlt12 : (tr 5).length < 12 := by have := hTV.2.2; omega
              have hEN := hI.2.2.2.1.2.2
              have hct : nn 0 8 ≤ 40 := by
                obtain ⟨g', g1, -, -, g4, -⟩ := hI.2.2.2.2.2.1
                have := hI.ll g' g1
                omega
              obtain ⟨v, c', lg', z', e1, e2, e3, e4⟩ := prop_both (kind := 0) (p := nn 0 10) (d := d) (o := o) w hX hI (by omega) rfl hg (by omega) ⟨by simp only; omega, hok, ho32, by simp, fun _ => ⟨by rw [← h5]; exact hlt12, hp0, by rw [← h5]; exact hnex⟩, fun q => by simp at q, fun q => by simp at q⟩
              obtain ⟨w1, l1, l2, l3⟩ := hlay c' lg' z' e2
              obtain ⟨r, r1, r2, -⟩ := id l3
              obtain ⟨w', nn', lo', tr', f1, f2, f3, f4⟩ := e4 w1 l2
              refine ⟨v, c', lg', z', w', nn', lo', tr', wt, ?_, ?_, f2, f3, f4.succ, e3⟩
              · simp only [fX7_create_23]
                rw [xR6 hW, hX.2.1 0 6 rfl, chf_s hg, jr_f (by simp), xR6 hW, hX.2.1 0 6 rfl, chf_s hg, sO hW _ _ _ _ hg, jr_bd hxc0, jr_t rfl, xI10 hW, hX.2.1 0 10 rfl, jr_f hp0x, xR3 hW, xI10 hW, hX.2.1 0 10 rfl, tO hW _ _ _ _ (by omega), jr_bd (x_nfd w hX (by omega) hok hnex), jr_t rfl, xR3 hW, xI10 hW, hX.2.1 0 10 rfl, jr_bd (x_parent hlt), tO hW _ _ _ _ (by omega), jr_bd hxc2, jr_f (by decide), xR3 hW, tO hW _ _ _ _ (by omega), jr_bd hxs2, jr_t (show nI (tr 5).length < (12 : Int32) from nI_lt (b := 12) hlt12 (by omega)), xI10 hW, hX.2.1 0 10 rfl, xO hW, jr_bd (show fX7_propose (c.1 0 0) 0 (nI (nn 0 10)) (nI d) (nI o) (qE c lg z w) = _ from e1)]; rfl
              · simp only [hpre hc' c' lg' z' e2]
                rw [hpar c' lg' z' w1 e2 l2 l3 l1, if_pos hcan]
                unfold fX8_create_123
                rw [mR15 e2]
                have e15 := mG15 e2 z' w1 (fun v16 => (if v16 = 12 then jm_ret (-7) else jm_rd (jm_o (some (c'.1 20 0)) 9) fun a18 => jm_bd (fX8_proposes a18 0 (nI (p7 (nn 0 10))) (nI d) (nI o)) fun v18 => jm_ret v18)) 5 (by omega)
                refine e15.trans ?_
                rw [r2, r1.length_eq, jr_f (show ¬ nI (tr 5).length = 12 from fun q => h12 ((nI_eq (b := 12) (by omega) (by omega)).mp q)), mO e2, jr_bd (show fX8_proposes (c'.1 20 0) 0 (nI (p7 (nn 0 10))) (nI d) (nI o) (qE c' lg' z' w1) = _ from f1)]; rfl
          · rw [if_neg hcan] at hxc2
            obtain ⟨w1, l1, l2, l3⟩ := hlay c lg z hW
            refine GO.lay (v := -3) hX l2 hI ?_ ?_
            · simp only [fX7_create_23]
              rw [xR6 hW, hX.2.1 0 6 rfl, chf_s hg, jr_f (by simp), xR6 hW, hX.2.1 0 6 rfl, chf_s hg, sO hW _ _ _ _ hg, jr_bd hxc0, jr_t rfl, xI10 hW, hX.2.1 0 10 rfl, jr_f hp0x, xR3 hW, xI10 hW, hX.2.1 0 10 rfl, tO hW _ _ _ _ (by omega), jr_bd (x_nfd w hX (by omega) hok hnex), jr_t rfl, xR3 hW, xI10 hW, hX.2.1 0 10 rfl, jr_bd (x_parent hlt), tO hW _ _ _ _ (by omega), jr_bd hxc2, jr_t rfl]; rfl
            · simp only [hpre hc' c lg z hW]
              rw [hpar c lg z w1 hW l2 l3 l1, if_neg hcan]
end C4
