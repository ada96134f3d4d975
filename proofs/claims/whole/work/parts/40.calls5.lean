/-! ===== create from its first line; setData, delete, closeSession ===== -/
section C5
variable {c : CX} {lg : LG} {z w : ZZ} {N : Nat} {nn : NN} {lo : Nat → List TX} {tr : Nat → List ND} {wt : List WT}
theorem x_data {d : Nat} {S : jm_S} (hd : d < 1000) : fX7_isData (nI d) S = some (1, S) := by
  unfold fX7_isData
  rw [jr_f (nI_pos (by omega)), jr_f (show ¬ (999 : Int32) < nI d from nI_nlt (a := 999) (by omega) (by omega))]; rfl
theorem x_datan {x : Int32} {S : jm_S} (hx : x < 0 ∨ nI 1000 ≤ x) : fX7_isData x S = some (0, S) := by
  unfold fX7_isData
  by_cases h0 : x < 0
  · rw [jr_t h0]; rfl
  · rw [jr_f h0, jr_t (Int32.lt_of_lt_of_le (show (999 : Int32) < nI 1000 by decide +kernel) (hx.resolve_left h0))]; rfl
theorem m_data {d : Nat} {S : jm_S} (hd : d < 1000) : fX8_in (nI d).toInt64 0 999 S = some (1, S) := by
  have e := m_in (x := nI d) (l := 0) (h := 999) (S := S)
  rw [if_neg (nI_pos (by omega)), if_neg (show ¬ (999 : Int32) < nI d from nI_nlt (a := 999) (by omega) (by omega))] at e
  exact e
theorem m_datan {x : Int32} {S : jm_S} (hx : x < 0 ∨ nI 1000 ≤ x) : fX8_in x.toInt64 0 999 S = some (0, S) := by
  have e := m_in (x := x) (l := 0) (h := 999) (S := S)
  by_cases h0 : x < 0
  · rw [if_pos h0] at e; exact e
  · rw [if_neg h0, if_pos (Int32.lt_of_lt_of_le (show (999 : Int32) < nI 1000 by decide +kernel) (hx.resolve_left h0))] at e
    exact e
theorem p_create (x y : Int32) (hX : RX c lg z nn lo tr wt) (hM : RM w nn lo tr wt) (hI : INV N nn lo tr wt) (hN : N < 600) : GO (fun a => fX7_create a x y) (fun a => fX8_create a x y) c lg z w N := by
  have hW := hX.1
  have hn := hI.1.2.2.1
  rcases ix_cases x (n := 1000) (by omega) with ⟨d, hd, rfl⟩ | hx
  · by_cases hy : y = -8
    · have hy2 : y = nI 4294967288 := by rw [hy, m8_]
      subst hy2
      refine GO.of (create_low hX hM hI hN hd (Or.inl rfl)) ?_ (fun c' lg' z' hW' => ?_)
      · simp only [fX7_create]
        rw [jr_bd (x_data hd), jr_f (by decide), jr_t hy]
      · simp only [fX8_create]
        rw [jr_bd (m_data hd), jr_f (by decide), jr_t hy]
    · rcases ix_cases y (n := nn 0 5) (by omega) with ⟨o, ho, rfl⟩ | hyn
      · refine GO.of (create_low hX hM hI hN hd (Or.inr ho)) ?_ (fun c' lg' z' hW' => ?_)
        · simp only [fX7_create]
          rw [jr_bd (x_data hd), jr_f (by decide), jr_f hy, xO hW, jr_bd (x_ses hX ho hn), jr_f (by simp)]
        · simp only [fX8_create]
          rw [jr_bd (m_data hd), jr_f (by decide), jr_f hy, mO hW', jr_bd (m_ses hW' hM ho hn), jr_f (by decide)]
      · refine GO.read (v := -1) hX hM hI ?_ ?_
        · simp only [fX7_create]
          rw [jr_bd (x_data hd), jr_f (by decide), jr_f hy, xO hW, jr_bd (x_sesn hX hyn), jr_t rfl]; rfl
        · simp only [fX8_create]
          rw [jr_bd (m_data hd), jr_f (by decide), jr_f hy, mO hW, jr_bd (m_sesn hW hM hyn hn), jr_t rfl]; rfl
  · refine GO.read (v := -1) hX hM hI ?_ ?_
    · simp only [fX7_create]
      rw [jr_bd (x_datan hx), jr_t rfl]; rfl
    · simp only [fX8_create]
      rw [jr_bd (m_datan hx), jr_t rfl]; rfl
theorem INV_ids (hI : INV N nn lo tr wt) (hN : N < 600) : 1000 * nn 0 7 + (nn 0 8 + 1) < 1000000 := by
  have hEN := hI.2.2.2.1.2.2
  obtain ⟨g', g1, -, -, g4, -⟩ := hI.2.2.2.2.2.1
  have := hI.ll g' g1
  omega
theorem p_close (x : Int32) (hX : RX c lg z nn lo tr wt) (hM : RM w nn lo tr wt) (hI : INV N nn lo tr wt) (hN : N < 600) : GO (fun a => fX7_closeSession a x) (fun a => fX8_closeSession a x) c lg z w N := by
  have hW := hX.1
  have hn := hI.1.2.2.1
  rcases ix_cases x (n := nn 0 5) (by omega) with ⟨o, ho, rfl⟩ | hx
  · rcases INV_lead hI with hl | ⟨hg, h5, hTV, hxs⟩
    · refine GO.read (v := -2) hX hM hI ?_ ?_
      · simp only [fX7_closeSession]
        rw [xO hW, jr_bd (x_ses hX ho hn), jr_f (by simp), xR6 hW, hX.2.1 0 6 rfl, hl, chf_n, jr_t rfl]; rfl
      · simp only [fX8_closeSession]
        rw [mO hW, jr_bd (m_ses hW hM ho hn), jr_f (by decide), mI5 hW, hM.1.1.2.1, hl, ← m8_, jr_t rfl]; rfl
    · have hgl := hI.ll _ hg
      have ho32 : o < 2 ^ 32 := by omega
      have hxc := x_closed w hX hg hgl ho32
      have hmc : ∀ (c' : CX) (lg' : LG) (z' : ZZ), qW c' lg' → fX8_isClosed (c'.1 20 0) (nI o) (qE c' lg' z' w) = some (if hcl o (lo (nn 0 6)) = true then 1 else 0, qE c' lg' z' w) := fun c' lg' z' hW' => m_closed hW' hM hg rfl hgl ho32 (fun x hx => ⟨(hxs x hx).1, (hxs x hx).2.1⟩)
      by_cases hc : hcl o (lo (nn 0 6)) = true
      · refine GO.read (v := -2) hX hM hI ?_ ?_
        · simp only [fX7_closeSession]
          rw [xO hW, jr_bd (x_ses hX ho hn), jr_f (by simp), xR6 hW, hX.2.1 0 6 rfl, chf_s hg, jr_f (by simp), xR6 hW, hX.2.1 0 6 rfl, chf_s hg, sO hW _ _ _ _ hg, jr_bd hxc, if_pos hc, jr_f (by decide)]; rfl
        · simp only [fX8_closeSession]
          rw [mO hW, jr_bd (m_ses hW hM ho hn), jr_f (by decide), mI5 hW, hM.1.1.2.1, jr_f (ldn hg), mO hW, jr_bd (hmc c lg z hW), if_pos hc, jr_f (by decide)]; rfl
      · rw [if_neg hc] at hxc
        obtain ⟨v, c', lg', z', e1, e2, e3, e4⟩ := prop_both (kind := 3) (p := 0) (d := 0) (o := o) w hX hI (by omega) rfl hg (by omega) ⟨INV_ids hI hN, (by decide : okp 0 = true), ho32, by simp, fun q => by simp at q, fun q => by simp at q, fun _ => by simp only; omega⟩
        obtain ⟨w', nn', lo', tr', f1, f2, f3, f4⟩ := e4 w hM
        have hmc' := hmc c' lg' z' e2
        rw [if_neg hc] at hmc'
        refine ⟨v, c', lg', z', w', nn', lo', tr', wt, ?_, ?_, f2, f3, f4.succ, e3⟩
        · simp only [fX7_closeSession]
          rw [xO hW, jr_bd (x_ses hX ho hn), jr_f (by simp), xR6 hW, hX.2.1 0 6 rfl, chf_s hg, jr_f (by simp), xR6 hW, hX.2.1 0 6 rfl, chf_s hg, sO hW _ _ _ _ hg, jr_bd hxc, jr_t rfl, xO hW, jr_bd (show fX7_propose (c.1 0 0) 3 0 0 (nI o) (qE c lg z w) = _ from e1)]; rfl
        · simp only [fX8_closeSession]
          rw [mO e2, jr_bd (m_ses e2 hM ho hn), jr_f (by decide), mI5 e2, hM.1.1.2.1, jr_f (ldn hg), mO e2, jr_bd hmc', jr_t rfl, mO e2, jr_bd (show fX8_proposes (c'.1 20 0) 3 0 0 (nI o) (qE c' lg' z' w) = _ from f1)]; rfl
  · refine GO.read (v := -1) hX hM hI ?_ ?_
    · simp only [fX7_closeSession]
      rw [xO hW, jr_bd (x_sesn hX hx), jr_t rfl]; rfl
    · simp only [fX8_closeSession]
      rw [mO hW, jr_bd (m_sesn hW hM hx hn), jr_t rfl]; rfl
/-! versions -/
theorem x_ver {y : Int32} {S : jm_S} : fX7_isVersion y S = some (if 0 ≤ y ∨ y = -9 then 1 else 0, S) := by
  unfold fX7_isVersion
  by_cases h0 : 0 ≤ y
  · rw [jr_t h0, if_pos (Or.inl h0)]; rfl
  · rw [jr_f h0]
    by_cases h1 : y = -9
    · rw [jr_t h1, if_pos (Or.inr h1)]; rfl
    · rw [jr_f h1, if_neg (fun q => q.elim h0 h1)]; rfl
theorem m_ver {y : Int32} {S : jm_S} : fX8_isVersion y S = some (if 0 ≤ y ∨ y = -9 then 1 else 0, S) := by
  unfold fX8_isVersion
  by_cases h0 : 0 ≤ y
  · rw [jr_t h0, if_pos (Or.inl h0)]; rfl
  · rw [jr_f h0]
    by_cases h1 : y = -9
    · rw [jr_t h1, if_pos (Or.inr h1)]; rfl
    · rw [jr_f h1, if_neg (fun q => q.elim h0 h1)]; rfl
theorem x_hasv {y : Int32} {j : Nat} {nd : ND} (hW : qW c lg) (hj : j < 72) (hs : slot z j = some nd) : fX0_hasVersion (c.1 5 j) y (qE c lg z w) = some (if y = -9 ∨ y = nI nd.2.2.1 then 1 else 0, qE c lg z w) := by
  unfold fX0_hasVersion
  by_cases h0 : y = -9
  · rw [jr_t h0, if_pos (Or.inl h0)]; rfl
  · rw [jr_f h0, nI2_ hW _ _ _ _ hj, (slot_some hs).2.2.1]
    by_cases h1 : y = nI nd.2.2.1
    · rw [jr_t h1, if_pos (Or.inr h1)]; rfl
    · rw [jr_f h1, if_neg (fun q => q.elim h0 h1)]; rfl
theorem m_agn {y : Int32} (hW : qW c lg) (hM : RM w nn lo tr wt) (hI : INV N nn lo tr wt) (h : nn 0 6 = 4294967288 ∨ (nn 0 6 < 5 ∧ nn 0 10 = 0)) : fX8_against (c.1 20 0) y (qE c lg z w) = some (-2, qE c lg z w) := by
  unfold fX8_against
  rw [mI5 hW, hM.1.1.2.1]
  rcases h with hl | ⟨hg, hp⟩
  · rw [hl, ← m8_, jr_t rfl]; rfl
  · rw [jr_f (ldn hg), mI20 hW, hM.1.1.2.2.2.2.2.1, jr_t (by rw [hI.1.2.2.2.2.1.mp hp]; rfl)]; rfl
theorem m_ag {y : Int32} (hW : qW c lg) (hM : RM w nn lo tr wt) (hI : INV N nn lo tr wt) (hN : N < 600) (hg : nn 0 6 < 5) (hp : nn 0 10 ≠ 0) (h5 : tr 5 = rp (lo (nn 0 6))) (hTV : TV (tr 5)) : ∃ w1, RM w1 nn lo tr wt ∧ MT w1 5 (tr 5) ∧ ((∀ nd, nd ∈ tr 5 → nd.1 ≠ nn 0 10) → fX8_against (c.1 20 0) y (qE c lg z w) = some (-3, qE c lg z w1)) ∧ ∀ nd, nd ∈ tr 5 → nd.1 = nn 0 10 → fX8_against (c.1 20 0) y (qE c lg z w) = some (if y = -9 ∨ y = nI nd.2.2.1 then 0 else -5, qE c lg z w1) := by
  have hok := hI.1.2.2.2.1
  have h0 := hI.1.2.2.2.2.1
  have h4 := hI.1.2.2.2.2.2
  have hgl := hI.ll _ hg
  have hR := (hI.2.2.2.2.1 _ hg).2.1
  obtain ⟨w1, l1, l2, l3⟩ := m_lays (z := z) hW hM hg hgl hR rfl hI.tl (hI.CB (by omega))
  rw [← h5] at l3
  refine ⟨w1, l2, l3, fun hn => ?_, fun nd n1 n3 => ?_⟩
  · unfold fX8_against
    rw [mI5 hW, hM.1.1.2.1, jr_f (ldn hg), mI20 hW, hM.1.1.2.2.2.2.2.1, jr_f (fun e => hp (h0.mpr ((nI_e0 (by omega)).mp e))), mO hW, jr_bd l1, mO hW, jr_bd (m_path hW l2), mO hW, jr_bd (show fX8_find (c.1 20 0) 5 (nI (p7 (nn 0 10))) (qE c lg z w1) = _ from m_nfd (i := 5) hW l3 (by decide) hok hTV hn), jr_t rfl]; rfl
  · obtain ⟨m, m1, m2, m3, m4⟩ := m_fnd (z := z) (i := 5) hW l3 (by decide) hok hTV n1 n3
    unfold fX8_against
    rw [mI5 hW, hM.1.1.2.1, jr_f (ldn hg), mI20 hW, hM.1.1.2.2.2.2.2.1, jr_f (fun e => hp (h0.mpr ((nI_e0 (by omega)).mp e))), mO hW, jr_bd l1, mO hW, jr_bd (m_path hW l2), mO hW, jr_bd (show fX8_find (c.1 20 0) 5 (nI (p7 (nn 0 10))) (qE c lg z w1) = _ from m2), jr_f (by rw [m8_]; intro e; have := (nI_inj (by omega) (by omega)).mp e; omega)]
    by_cases h9 : y = -9
    · rw [jr_t h9, if_pos (Or.inl h9)]; rfl
    · rw [jr_f h9, mR18 hW, mG18 hW _ _ _ _ (by omega), m3]
      by_cases hv : y = nI nd.2.2.1
      · rw [jr_t hv.symm, if_pos (Or.inr hv)]; rfl
      · rw [jr_f (fun e => hv e.symm), if_neg (fun q => q.elim h9 hv)]; rfl
theorem p_set (x y : Int32) (hX : RX c lg z nn lo tr wt) (hM : RM w nn lo tr wt) (hI : INV N nn lo tr wt) (hN : N < 600) : GO (fun a => fX7_setData a x y) (fun a => fX8_setData a x y) c lg z w N := by
  have hW := hX.1
  have hok := hI.1.2.2.2.1
  have hlt := okp_lt hok
  rcases ix_cases x (n := 1000) (by omega) with ⟨d, hd, rfl⟩ | hx
  · by_cases hy : 0 ≤ y ∨ y = -9
    · by_cases hno : nn 0 6 = 4294967288 ∨ (nn 0 6 < 5 ∧ nn 0 10 = 0)
      · refine GO.read (v := -2) hX hM hI ?_ ?_
        · simp only [fX7_setData]
          rw [jr_bd (x_data hd), jr_f (by decide), jr_bd x_ver, if_pos hy, jr_f (by decide), xR6 hW, hX.2.1 0 6 rfl]
          rcases hno with hl | ⟨hg, hp⟩
          · rw [hl, chf_n, jr_t rfl]; rfl
          · rw [chf_s hg, jr_f (by simp), xI10 hW, hX.2.1 0 10 rfl, jr_t (by rw [hp]; rfl)]; rfl
        · simp only [fX8_setData]
          rw [jr_bd (m_data hd), jr_f (by decide), jr_bd m_ver, if_pos hy, jr_f (by decide), mO hW, jr_bd (m_agn hW hM hI hno), jr_f (by decide)]; rfl
      · rcases INV_lead hI with hl | ⟨hg, h5, hTV, hxs⟩
        · exact absurd (Or.inl hl) hno
        · have hp : nn 0 10 ≠ 0 := fun q => hno (Or.inr ⟨hg, q⟩)
          have hpx : ¬ nI (nn 0 10) = 0 := fun e => hp ((nI_e0 (by omega)).mp e)
          by_cases hex : ∃ nd, nd ∈ tr 5 ∧ nd.1 = nn 0 10
          · obtain ⟨nd, n1, n3⟩ := hex
            obtain ⟨m, m1, m2, m3⟩ := x_fnd w hX (show 5 < 6 by omega) hok hTV n1 n3
            have hj : 12 * 5 + m < 72 := by omega
            by_cases hv : y = -9 ∨ y = nI nd.2.2.1
            · obtain ⟨v, c', lg', z', e1, e2, e3, e4⟩ := prop_both (kind := 1) (p := nn 0 10) (d := d) (o := 4294967288) w hX hI (by omega) rfl hg (by omega) ⟨INV_ids hI hN, hok, by simp, by simp, fun q => by simp at q, fun _ => ⟨nd, by rw [← h5]; exact n1, n3⟩, fun q => by simp at q⟩
              obtain ⟨w1, l2, l3, -, l5⟩ := m_ag (z := z') (y := y) e2 hM hI hN hg hp h5 hTV
              have l6 := l5 nd n1 n3
              rw [if_pos hv] at l6
              obtain ⟨w', nn', lo', tr', f1, f2, f3, f4⟩ := e4 w1 l2
              refine ⟨v, c', lg', z', w', nn', lo', tr', wt, ?_, ?_, f2, f3, f4.succ, e3⟩
              · simp only [fX7_setData]
                rw [jr_bd (x_data hd), jr_f (by decide), jr_bd x_ver, if_pos hy, jr_f (by decide), xR6 hW, hX.2.1 0 6 rfl, chf_s hg, jr_f (by simp), xI10 hW, hX.2.1 0 10 rfl, jr_f hpx, xR3 hW, xI10 hW, hX.2.1 0 10 rfl, tO hW _ _ _ _ (by omega), jr_bd m2, jr_f (by simp), nO hW _ _ _ _ hj, jr_bd (x_hasv hW hj m3), if_pos hv, jr_f (by decide), xI10 hW, hX.2.1 0 10 rfl, xO hW, m8_, jr_bd (show fX7_propose (c.1 0 0) 1 (nI (nn 0 10)) (nI d) (nI 4294967288) (qE c lg z w) = _ from e1)]; rfl
              · simp only [fX8_setData]
                rw [jr_bd (m_data hd), jr_f (by decide), jr_bd m_ver, if_pos hy, jr_f (by decide), mO e2, jr_bd l6, jr_t rfl, mO e2, jr_bd (m_path e2 l2), mO e2, m8_, jr_bd (show fX8_proposes (c'.1 20 0) 1 (nI (p7 (nn 0 10))) (nI d) (nI 4294967288) (qE c' lg' z' w1) = _ from f1)]; rfl
            · obtain ⟨w1, l2, l3, -, l5⟩ := m_ag (z := z) (y := y) hW hM hI hN hg hp h5 hTV
              have l6 := l5 nd n1 n3
              rw [if_neg hv] at l6
              refine GO.lay (v := -5) hX l2 hI ?_ ?_
              · simp only [fX7_setData]
                rw [jr_bd (x_data hd), jr_f (by decide), jr_bd x_ver, if_pos hy, jr_f (by decide), xR6 hW, hX.2.1 0 6 rfl, chf_s hg, jr_f (by simp), xI10 hW, hX.2.1 0 10 rfl, jr_f hpx, xR3 hW, xI10 hW, hX.2.1 0 10 rfl, tO hW _ _ _ _ (by omega), jr_bd m2, jr_f (by simp), nO hW _ _ _ _ hj, jr_bd (x_hasv hW hj m3), if_neg hv, jr_t rfl]; rfl
              · simp only [fX8_setData]
                rw [jr_bd (m_data hd), jr_f (by decide), jr_bd m_ver, if_pos hy, jr_f (by decide), mO hW, jr_bd l6, jr_f (by decide)]; rfl
          · have hnex : ∀ nd, nd ∈ tr 5 → nd.1 ≠ nn 0 10 := fun nd h1 h2 => hex ⟨nd, h1, h2⟩
            obtain ⟨w1, l2, l3, l4, -⟩ := m_ag (z := z) (y := y) hW hM hI hN hg hp h5 hTV
            refine GO.lay (v := -3) hX l2 hI ?_ ?_
            · simp only [fX7_setData]
              rw [jr_bd (x_data hd), jr_f (by decide), jr_bd x_ver, if_pos hy, jr_f (by decide), xR6 hW, hX.2.1 0 6 rfl, chf_s hg, jr_f (by simp), xI10 hW, hX.2.1 0 10 rfl, jr_f hpx, xR3 hW, xI10 hW, hX.2.1 0 10 rfl, tO hW _ _ _ _ (by omega), jr_bd (x_nfd w hX (by omega) hok hnex), jr_t rfl]; rfl
            · simp only [fX8_setData]
              rw [jr_bd (m_data hd), jr_f (by decide), jr_bd m_ver, if_pos hy, jr_f (by decide), mO hW, jr_bd (l4 hnex), jr_f (by decide)]; rfl
    · refine GO.read (v := -1) hX hM hI ?_ ?_
      · simp only [fX7_setData]
        rw [jr_bd (x_data hd), jr_f (by decide), jr_bd x_ver, if_neg hy, jr_t rfl]; rfl
      · simp only [fX8_setData]
        rw [jr_bd (m_data hd), jr_f (by decide), jr_bd m_ver, if_neg hy, jr_t rfl]; rfl
  · refine GO.read (v := -1) hX hM hI ?_ ?_
    · simp only [fX7_setData]
      rw [jr_bd (x_datan hx), jr_t rfl]; rfl
    · simp only [fX8_setData]
      rw [jr_bd (m_datan hx), jr_t rfl]; rfl
theorem p_del (y : Int32) (hX : RX c lg z nn lo tr wt) (hM : RM w nn lo tr wt) (hI : INV N nn lo tr wt) (hN : N < 600) : GO (fun a => fX7_delete a y) (fun a => fX8_delete a y) c lg z w N := by
  have hW := hX.1
  have hok := hI.1.2.2.2.1
  have hlt := okp_lt hok
  by_cases hy : 0 ≤ y ∨ y = -9
  · by_cases hno : nn 0 6 = 4294967288 ∨ (nn 0 6 < 5 ∧ nn 0 10 = 0)
    · refine GO.read (v := -2) hX hM hI ?_ ?_
      · simp only [fX7_delete]
        rw [jr_bd x_ver, if_pos hy, jr_f (by decide), xR6 hW, hX.2.1 0 6 rfl]
        rcases hno with hl | ⟨hg, hp⟩
        · rw [hl, chf_n, jr_t rfl]; rfl
        · rw [chf_s hg, jr_f (by simp), xI10 hW, hX.2.1 0 10 rfl, jr_t (by rw [hp]; rfl)]; rfl
      · simp only [fX8_delete]
        rw [jr_bd m_ver, if_pos hy, jr_f (by decide), mO hW, jr_bd (m_agn hW hM hI hno), jr_f (by decide)]; rfl
    · rcases INV_lead hI with hl | ⟨hg, h5, hTV, hxs⟩
      · exact absurd (Or.inl hl) hno
      · have hp : nn 0 10 ≠ 0 := fun q => hno (Or.inr ⟨hg, q⟩)
        have hpx : ¬ nI (nn 0 10) = 0 := fun e => hp ((nI_e0 (by omega)).mp e)
        by_cases hex : ∃ nd, nd ∈ tr 5 ∧ nd.1 = nn 0 10
        · obtain ⟨nd, n1, n3⟩ := hex
          obtain ⟨m, m1, m2, m3⟩ := x_fnd w hX (show 5 < 6 by omega) hok hTV n1 n3
          have hj : 12 * 5 + m < 72 := by omega
          by_cases hv : y = -9 ∨ y = nI nd.2.2.1
          · have hP := hX.2.2.2 5 (by omega)
            have hcx := x_child (z := z) (w := w) (p := nn 0 10) hW (show 5 < 6 by omega) hlt (fun nd hn => okp_lt (hTV.2.1 nd (hP.mem_iff.mp hn)).1)
            rw [hP.countP_eq] at hcx
            have hcl : (tr 5).countP (fun nd => nd.1 / 8 == nn 0 10) ≤ 12 := Nat.le_trans List.countP_le_length hTV.2.2
            by_cases hch : (tr 5).countP (fun nd => nd.1 / 8 == nn 0 10) = 0
            · rw [hch] at hcx
              obtain ⟨v, c', lg', z', e1, e2, e3, e4⟩ := prop_both (kind := 2) (p := nn 0 10) (d := 0) (o := 4294967288) w hX hI (by omega) rfl hg (by omega) ⟨INV_ids hI hN, hok, by simp, by simp, fun q => by simp at q, fun _ => ⟨nd, by rw [← h5]; exact n1, n3⟩, fun q => by simp at q⟩
              obtain ⟨w1, l2, l3, -, l5⟩ := m_ag (z := z') (y := y) e2 hM hI hN hg hp h5 hTV
              have l6 := l5 nd n1 n3
              rw [if_pos hv] at l6
              have hcm := m_child (z := z') (p := nn 0 10) (i := 5) e2 l3 (by decide) hTV hok
              rw [hch] at hcm
              obtain ⟨w', nn', lo', tr', f1, f2, f3, f4⟩ := e4 w1 l2
              refine ⟨v, c', lg', z', w', nn', lo', tr', wt, ?_, ?_, f2, f3, f4.succ, e3⟩
              · simp only [fX7_delete]
                rw [jr_bd x_ver, if_pos hy, jr_f (by decide), xR6 hW, hX.2.1 0 6 rfl, chf_s hg, jr_f (by simp), xI10 hW, hX.2.1 0 10 rfl, jr_f hpx, xR3 hW, xI10 hW, hX.2.1 0 10 rfl, tO hW _ _ _ _ (by omega), jr_bd m2, jr_f (by simp), nO hW _ _ _ _ hj, jr_bd (x_hasv hW hj m3), if_pos hv, jr_f (by decide), xR3 hW, xI10 hW, hX.2.1 0 10 rfl, tO hW _ _ _ _ (by omega), jr_bd hcx, jr_t (show nI 0 ≤ 0 by decide +kernel), xI10 hW, hX.2.1 0 10 rfl, xO hW, m8_, jr_bd (show fX7_propose (c.1 0 0) 2 (nI (nn 0 10)) 0 (nI 4294967288) (qE c lg z w) = _ from e1)]; rfl
              · simp only [fX8_delete]
                rw [jr_bd m_ver, if_pos hy, jr_f (by decide), mO e2, jr_bd l6, jr_t rfl, mO e2, jr_bd (m_path e2 l2), mO e2, jr_bd (show fX8_children (c'.1 20 0) 5 (nI (p7 (nn 0 10))) (qE c' lg' z' w1) = _ from hcm), jr_t (show nI 0 ≤ 0 by decide +kernel), mO e2, jr_bd (m_path e2 l2), mO e2, m8_, jr_bd (show fX8_proposes (c'.1 20 0) 2 (nI (p7 (nn 0 10))) 0 (nI 4294967288) (qE c' lg' z' w1) = _ from f1)]; rfl
            · obtain ⟨w1, l2, l3, -, l5⟩ := m_ag (z := z) (y := y) hW hM hI hN hg hp h5 hTV
              have l6 := l5 nd n1 n3
              rw [if_pos hv] at l6
              have hcm := m_child (z := z) (p := nn 0 10) (i := 5) hW l3 (by decide) hTV hok
              refine GO.lay (v := -6) hX l2 hI ?_ ?_
              · simp only [fX7_delete]
                rw [jr_bd x_ver, if_pos hy, jr_f (by decide), xR6 hW, hX.2.1 0 6 rfl, chf_s hg, jr_f (by simp), xI10 hW, hX.2.1 0 10 rfl, jr_f hpx, xR3 hW, xI10 hW, hX.2.1 0 10 rfl, tO hW _ _ _ _ (by omega), jr_bd m2, jr_f (by simp), nO hW _ _ _ _ hj, jr_bd (x_hasv hW hj m3), if_pos hv, jr_f (by decide), xR3 hW, xI10 hW, hX.2.1 0 10 rfl, tO hW _ _ _ _ (by omega), jr_bd hcx, jr_f (nI_nle (by omega) (by omega))]; rfl
              · simp only [fX8_delete]
                rw [jr_bd m_ver, if_pos hy, jr_f (by decide), mO hW, jr_bd l6, jr_t rfl, mO hW, jr_bd (m_path hW l2), mO hW, jr_bd (show fX8_children (c.1 20 0) 5 (nI (p7 (nn 0 10))) (qE c lg z w1) = _ from hcm), jr_f (nI_nle (by omega) (by omega))]; rfl
          · obtain ⟨w1, l2, l3, -, l5⟩ := m_ag (z := z) (y := y) hW hM hI hN hg hp h5 hTV
            have l6 := l5 nd n1 n3
            rw [if_neg hv] at l6
            refine GO.lay (v := -5) hX l2 hI ?_ ?_
            · simp only [fX7_delete]
              rw [jr_bd x_ver, if_pos hy, jr_f (by decide), xR6 hW, hX.2.1 0 6 rfl, chf_s hg, jr_f (by simp), xI10 hW, hX.2.1 0 10 rfl, jr_f hpx, xR3 hW, xI10 hW, hX.2.1 0 10 rfl, tO hW _ _ _ _ (by omega), jr_bd m2, jr_f (by simp), nO hW _ _ _ _ hj, jr_bd (x_hasv hW hj m3), if_neg hv, jr_t rfl]; rfl
            · simp only [fX8_delete]
              rw [jr_bd m_ver, if_pos hy, jr_f (by decide), mO hW, jr_bd l6, jr_f (by decide)]; rfl
        · have hnex : ∀ nd, nd ∈ tr 5 → nd.1 ≠ nn 0 10 := fun nd h1 h2 => hex ⟨nd, h1, h2⟩
          obtain ⟨w1, l2, l3, l4, -⟩ := m_ag (z := z) (y := y) hW hM hI hN hg hp h5 hTV
          refine GO.lay (v := -3) hX l2 hI ?_ ?_
          · simp only [fX7_delete]
            rw [jr_bd x_ver, if_pos hy, jr_f (by decide), xR6 hW, hX.2.1 0 6 rfl, chf_s hg, jr_f (by simp), xI10 hW, hX.2.1 0 10 rfl, jr_f hpx, xR3 hW, xI10 hW, hX.2.1 0 10 rfl, tO hW _ _ _ _ (by omega), jr_bd (x_nfd w hX (by omega) hok hnex), jr_t rfl]; rfl
          · simp only [fX8_delete]
            rw [jr_bd m_ver, if_pos hy, jr_f (by decide), mO hW, jr_bd (l4 hnex), jr_f (by decide)]; rfl
  · refine GO.read (v := -1) hX hM hI ?_ ?_
    · simp only [fX7_delete]
      rw [jr_bd x_ver, if_neg hy, jr_t rfl]; rfl
    · simp only [fX8_delete]
      rw [jr_bd m_ver, if_neg hy, jr_t rfl]; rfl
end C5
