/-! ===== watch ===== -/
section WA
variable {c : CX} {lg : LG} {z w : ZZ} {N : Nat} {nn : NN} {lo : Nat → List TX} {tr : Nat → List ND} {wt : List WT}
theorem RX.newwt {s k p : Nat} (w : ZZ) (h : RX c lg z nn lo tr wt) (b1 : s < 2 ^ 32) (b3 : p < 2 ^ 32) : ∃ S1 z', jm_new 6 [.inl 0, .inr none, .inl 0] (qE c lg z w) = some (c.2.2.2.2.2.1, S1) ∧ jm_gI (some (c.1 0 0)) 8 10 S1 = some (z 0 10) ∧ fX5_init c.2.2.2.2.2.1 (nI s) (some (c.1 10 k)) (nI p) S1 = some ((), qE (cV c k) lg z' w) ∧ RX (cV c k) lg z' nn lo tr wt ∧ (cV c k).2.1 c.2.2.2.2.2.1 = some (13, c.2.2.2.2.2.1) ∧ wtof (cV c k) z' c.2.2.2.2.2.1 = (s, k, p) ∧ KE c (cV c k) 1 3 := by
  have hW := h.1
  obtain ⟨-, h2, ⟨AL, a1, a2, a3⟩, h4⟩ := h
  let a := c.2.2.2.2.2.1
  let z' : ZZ := u2 (u2 z 17 a (nI s)) 19 a (nI p)
  have hW' : qW (cV c k) lg := cW_new hW (Or.inr (Or.inl rfl)) rfl rfl rfl rfl rfl
  have hzk : ∀ f, f ≠ 17 → f ≠ 19 → z' f = z f := fun f h1 h2 => by
    show u2 (u2 z 17 a _) 19 a _ f = z f
    rw [u2_k h2, u2_k h1]
  have hzi : ∀ f i, i ≠ a → z' f i = z f i := fun f i hi => by
    show u2 (u2 z 17 a _) 19 a _ f i = z f i
    have e : ∀ (z : ZZ) (k : Nat) (v : Int32), u2 z k a v f i = z f i := fun z k v => by unfold u2; rw [if_neg (fun q => hi q.2)]
    rw [e, e]
  let e0 : jm_E := .inr (6, [.inl 0, .inr none, .inl 0])
  have hU : (va_up (qE c lg z w).1 (qE c lg z w).2.1 (some e0), (qE c lg z w).2.1 + 1, (qE c lg z w).2.2.1 + 3, (qE c lg z w).2.2.2) = qE (cU c e0 3) lg z w := qE_new (k := 99) (i := a) hW rfl rfl (by
      show (cU c e0 3).2.2.2.2.1 a = e0
      exact va_s _ _ _) (fun b k' i' hb => by
      have hb1 := hW.1 b _ hb
      by_cases h99 : k' = 99
      · subst h99
        have : i' ≠ a := by
          have := (hW.2.1 i').2.2
          have hb2 := hb1.2.1
          simp only at hb2
          show i' ≠ c.2.2.2.2.2.1
          omega
        show (cU c e0 3).2.2.2.2.1 i' = c.2.2.2.2.1 i'
        exact va_n this
      · unfold cel
        split <;> first | rfl | (exact absurd rfl h99))
  have hWU : qW (cU c e0 3) lg := cW_new hW (Or.inr (Or.inr rfl)) rfl rfl rfl rfl rfl
  refine ⟨_, z', rfl, ?_, ?_, ⟨hW', fun k i hd => ?_, ⟨AL, fun i hi => (a1 i hi).keep (by rw [hzk 20 (by omega) (by omega)]) rfl rfl, fun i hi => ?_, ?_⟩, fun i hi => by rw [slots_k (fun f q1 q2 => hzk f (by omega) (by omega))]; exact h4 i hi⟩, ?_, ?_, ⟨fun _ _ _ => rfl, fun b hb => ?_, Nat.le_refl _, Nat.le_refl _⟩⟩
  · have e : jm_gI (some ((cU c e0 3).1 0 0)) 8 10 (qE (cU c e0 3) lg z w) = some (z 0 10) := jr_gI (hWU.t rfl) rfl rfl
    rw [← hU] at e
    exact e
  · have e : ∀ (S : jm_S) (f0 f1 f2 : jm_V), fX5_init a (nI s) (some (c.1 10 k)) (nI p) (va_up S.1 a (some (.inr (6, [f0, f1, f2]))), S.2) = some ((), (va_up S.1 a (some (.inr (6, [.inl (nI s), .inr (some (c.1 10 k)), .inl (nI p)]))), S.2)) := by
      intro S f0 f1 f2
      unfold fX5_init
      rw [jr_rd (show jm_nn (some a) _ = some () from rfl)]
      have hs : ∀ (M : jm_M) (e : jm_E), va_up M a (some e) a = some e := fun M e => by simp [va_up]
      rw [jr_wr (raw_p (hs _ _) (by simp)), jr_wr (raw_p (hs _ _) (by simp)), jr_wr (raw_p (hs _ _) (by simp))]
      simp only [va_va]
      rfl
    refine (e ((qE c lg z w).1, c.2.2.2.2.2.1 + 1, c.2.2.2.2.2.2.1 + 3, c.2.2.2.2.2.2.2) _ _ _).trans ?_
    have e2 := qE_new (c := c) (c' := cV c k) (lg := lg) (lg' := lg) (z := z) (z' := z') (w := w) (w' := w) (k := 13) (i := a) (n := 3) (e := .inr (6, [.inl (nI s), .inr (some (c.1 10 k)), .inl (nI p)])) hW rfl rfl (by
        show (.inr (6, [.inl (u2 (u2 z 17 a (nI s)) 19 a (nI p) 17 a), .inr (some (c.1 10 (va_up c.2.2.2.1 a k a))), .inl (u2 (u2 z 17 a (nI s)) 19 a (nI p) 19 a)]) : jm_E) = _
        rw [u2_k (by decide), u2_s, u2_s, va_s]) (fun b k' i' hb => by
        have hb1 := hW.1 b _ hb
        by_cases h13 : k' = 13
        · subst h13
          have : i' ≠ a := by
            have := (hW.2.1 i').2.1
            have hb2 := hb1.2.1
            simp only at hb2
            show i' ≠ c.2.2.2.2.2.1
            omega
          show (.inr (6, [.inl (z' 17 i'), .inr (some (c.1 10 (va_up c.2.2.2.1 a k i'))), .inl (z' 19 i')]) : jm_E) = .inr (6, [.inl (z 17 i'), .inr (some (c.1 10 (c.2.2.2.1 i'))), .inl (z 19 i')])
          rw [hzi _ i' this, hzi _ i' this, va_n this]
        · have hc : cel (cV c k) lg z' w k' i' = cel c lg z' w k' i' := by
            unfold cel
            split <;> first | rfl | (exact absurd rfl h13)
          rw [hc]
          show cel c lg (u2 (u2 z 17 a _) 19 a _) w k' i' = _
          rw [cel_z 13 (by decide) (fun q => h13 q.1), cel_z 13 (by decide) (fun q => h13 q.1)])
    exact congrArg (fun S => some ((), S)) e2
  · have := dX_k hd
    rw [hzk k (by omega) (by omega)]
    exact h2 k i hd
  · rw [← a2 i hi, txof_k (fun f q1 q2 => hzk f (by omega) (by omega))]
  · rw [← a3]
    apply List.map_congr_left
    intro b hb
    have : b ≠ a := by have := AL_lt hW (a1 5 (by omega)) (by omega) hb; show b ≠ c.2.2.2.2.2.1; omega
    show (un (z' 17 b), va_up c.2.2.2.1 a k b, un (z' 19 b)) = (un (z 17 b), c.2.2.2.1 b, un (z 19 b))
    rw [hzi _ b this, hzi _ b this, va_n this]
  · show va_up c.2.1 c.2.2.2.2.2.1 _ c.2.2.2.2.2.1 = _
    rw [va_s]
  · show (un (u2 (u2 z 17 a (nI s)) 19 a (nI p) 17 a), va_up c.2.2.2.1 a k a, un (u2 (u2 z 17 a (nI s)) 19 a (nI p) 19 a)) = _
    rw [u2_k (by decide), u2_s, u2_s, va_s, un_nI b1, un_nI b3]
  · have := (hW.1 b _ hb).1
    show va_up c.2.1 c.2.2.2.2.2.1 _ b = _
    rw [va_n (by omega)]
    exact hb
theorem RX.wadd {a : Nat} {v : WT} (w : ZZ) (h : RX c lg z nn lo tr wt) (t : c.2.1 a = some (13, a)) (hv : wtof c z a = v) (hl : wt.length ≤ 39) : ∃ c' lg' z', fJx4a65c_add_9ea2d (c.1 6 5) (some a) (qE c lg z w) = some (1, qE c' lg' z' w) ∧ RX c' lg' z' nn lo tr (wt ++ [v]) ∧ KE c c' 1 58 := by
  obtain ⟨h1, h2, ⟨AL, a1, a2, a3⟩, h4⟩ := id h
  have hlen : (AL 5).length = wt.length := by rw [← a3, List.length_map]
  obtain ⟨c', lg', y, e1, e2, e3, e4, e5, e6, e7⟩ := l_add (w := w) h1 (show 5 < 6 by omega) (a1 5 (by omega)) (by omega) (fun q => by omega) (fun _ => t)
  have hwt : wtof c' (u2 (u2 z 9 5 y) 20 5 (nI ((AL 5).length + 1))) = wtof c z := by
    funext b
    simp only [wtof, e5.2.2.2.1]
    rw [u2_k (by decide), u2_k (by decide), u2_k (by decide), u2_k (by decide)]
  refine ⟨c', lg', _, e1, ⟨e2, fun k i hd => ?_, ⟨va_up AL 5 (AL 5 ++ [a]), fun i hi => ?_, fun i hi => ?_, ?_⟩, fun i hi => ?_⟩, ⟨fun k j hk => e5.1 k j (fun q => hk q.1), fun b hb => e5.2.1 b 8 b hb (by decide), e6, e7⟩⟩
  · have := dX_k hd
    rw [u2_k (by omega), u2_k (by omega)]
    exact h2 k i hd
  · by_cases e : i = 5
    · subst e
      rw [va_s]
      exact e4
    · rw [va_n e]
      exact (a1 i hi).keep (by rw [u2_i e, u2_k (by decide)]) (e3 i e) (e5.2.2.1 i e)
  · rw [txof_k (z := z) (fun f q1 q2 => by rw [u2_k (by omega), u2_k (by omega)]), va_n (by omega)]
    exact a2 i hi
  · rw [hwt, va_s, List.map_append, a3, List.map_cons, List.map_nil, hv]
  · rw [slots_k (z := z) (fun f q1 q2 => by rw [u2_k (by omega), u2_k (by omega)])]
    exact h4 i hi
theorem p_watch (x y : Int32) (hX : RX c lg z nn lo tr wt) (hM : RM w nn lo tr wt) (hI : INV N nn lo tr wt) (hN : N < 600) : GO (fun a => fX7_watch a x y) (fun a => fX8_watch a x y) c lg z w N := by
  have hW := hX.1
  have hn := hI.1.2.1
  have hn6 := hI.1.2.2.1
  have hok := hI.1.2.2.2.1
  have hlt := okp_lt hok
  have h0 := hI.1.2.2.2.2.1
  have h4 := hI.1.2.2.2.2.2
  have hl10 := hI.2.2.2.1.1.1
  rcases ix_cases x (n := nn 0 4) (by omega) with ⟨s, hs, rfl⟩ | hx
  · have hs5 : s < 5 := by omega
    obtain ⟨u1, -⟩ := hI.2.1 s hs5
    rcases ix_cases y (n := nn 0 5) (by omega) with ⟨k, hk, rfl⟩ | hy
    · have hk6 : k < 6 := by omega
      by_cases hup : nn 1 s = 0
      · refine GO.read (v := -2) hX hM hI ?_ ?_
        · simp only [fX7_watch]
          rw [xO hW, jr_bd (x_srv hX hs hn), xO hW, jr_bd (x_ses hX hk hn6), jr_f (by simp), jr_f (by simp), sI3 hW _ _ _ _ hs5, hX.2.1 1 s (by simp [dX, hs5]), jr_t (by rw [hup]; rfl)]; rfl
        · simp only [fX8_watch]
          rw [mO hW, jr_bd (m_srv hW hM hs hn), jr_f (by decide), mO hW, jr_bd (m_ses hW hM hk hn6), jr_f (by decide), mR1 hW, mG1 hW _ _ _ _ hs5, (hM.1.2 s hs5).1 hs, jr_t (by rw [hup]; rfl)]; rfl
      · have hupx : ¬ nI (nn 1 s) = 0 := fun e => hup ((nI_e0 (by omega)).mp e)
        by_cases hp : nn 0 10 = 0
        · refine GO.read (v := -2) hX hM hI ?_ ?_
          · simp only [fX7_watch]
            rw [xO hW, jr_bd (x_srv hX hs hn), xO hW, jr_bd (x_ses hX hk hn6), jr_f (by simp), jr_f (by simp), sI3 hW _ _ _ _ hs5, hX.2.1 1 s (by simp [dX, hs5]), jr_f hupx, xI10 hW, hX.2.1 0 10 rfl, jr_t (by rw [hp]; rfl)]; rfl
          · simp only [fX8_watch]
            rw [mO hW, jr_bd (m_srv hW hM hs hn), jr_f (by decide), mO hW, jr_bd (m_ses hW hM hk hn6), jr_f (by decide), mR1 hW, mG1 hW _ _ _ _ hs5, (hM.1.2 s hs5).1 hs, jr_f hupx, mI20 hW, hM.1.1.2.2.2.2.2.1, jr_t (by rw [h0.mp hp]; rfl)]; rfl
        · have hpx : ¬ nI (nn 0 10) = 0 := fun e => hp ((nI_e0 (by omega)).mp e)
          have hpm : ¬ nI (nn 0 11) = 0 := fun e => hp (h0.mpr ((nI_e0 (by omega)).mp e))
          have hsz : fX6_size (c.1 12 0) (qE c lg z w) = some (nI wt.length, qE c lg z w) := by
            unfold fX6_size
            rw [yR hW, lO hW _ _ _ _ (by omega), lS hW _ _ _ _ (by omega), hX.len.1]; rfl
          by_cases h10 : wt.length = 10
          · refine GO.read (v := -7) hX hM hI ?_ ?_
            · simp only [fX7_watch]
              rw [xO hW, jr_bd (x_srv hX hs hn), xO hW, jr_bd (x_ses hX hk hn6), jr_f (by simp), jr_f (by simp), sI3 hW _ _ _ _ hs5, hX.2.1 1 s (by simp [dX, hs5]), jr_f hupx, xI10 hW, hX.2.1 0 10 rfl, jr_f hpx, xR2 hW, yO hW, jr_bd hsz, h10, jr_f (by decide +kernel)]; rfl
            · simp only [fX8_watch]
              rw [mO hW, jr_bd (m_srv hW hM hs hn), jr_f (by decide), mO hW, jr_bd (m_ses hW hM hk hn6), jr_f (by decide), mR1 hW, mG1 hW _ _ _ _ hs5, (hM.1.2 s hs5).1 hs, jr_f hupx, mI20 hW, hM.1.1.2.2.2.2.2.1, jr_f hpm, mI25 hW, hM.2.2.2.1.1, h10, jr_t (show nI 10 = 10 from rfl)]; rfl
          · have hwl : wt.length < 10 := by omega
            obtain ⟨S1, z1, e1, e2, e3, e4, e5, e6, e7⟩ := hX.newwt (s := s) (k := k) (p := nn 0 10) w (by omega) (by omega)
            obtain ⟨c2, lg2, z2, f1, f2, f3⟩ := e4.wadd w e5 e6 (by omega)
            have hKE : KE c c2 2 61 := (e7.trans f3).mono (by omega) (by omega)
            have hc12 := f3.1 12 0 (by decide)
            have hc0 := f3.1 0 0 (by decide)
            have hW2 := f2.1
            have hlen : (wt ++ [(s, k, nn 0 10)]).length = wt.length + 1 := by simp
            have hsz2 : fX6_size (c2.1 12 0) (qE c2 lg2 z2 w) = some (nI (wt.length + 1), qE c2 lg2 z2 w) := by
              unfold fX6_size
              rw [yR hW2, lO hW2 _ _ _ _ (by omega), lS hW2 _ _ _ _ (by omega), f2.len.1, hlen]; rfl
            have hadd : fX6_add ((cV c k).1 12 0) (some c.2.2.2.2.2.1) (qE (cV c k) lg z1 w) = some ((), qE c2 lg2 z2 w) := by
              unfold fX6_add
              rw [yR e4.1, lO e4.1 _ _ _ _ (by omega), jr_bd f1]; rfl
            have hMpath := m_path (z := z2) hW2 hM
            let w' : ZZ := u2 (u2 (u2 (u2 w 26 wt.length (nI s)) 27 wt.length (nI k)) 28 wt.length (nI (p7 (nn 0 10)))) 25 0 (nI (wt.length + 1))
            have hwk : ∀ f, ¬ (25 ≤ f ∧ f ≤ 28) → w' f = w f := fun f hf => by
              show u2 (u2 (u2 (u2 w 26 _ _) 27 _ _) 28 _ _) 25 0 _ f = w f
              rw [u2_k (by omega), u2_k (by omega), u2_k (by omega), u2_k (by omega)]
            have hM' : RM w' nn lo tr (wt ++ [(s, k, nn 0 10)]) := by
              refine ⟨hM.1.fr (fun f q => hwk f (by omega)) (fun _ _ => rfl), fun i hi => (hM.2.1 i hi).fr (fun f q1 q2 => hwk f (by omega)), fun i hi => (hM.2.2.1 i hi).fr (fun f q1 q2 => hwk f (by omega)), ⟨by rw [hlen]; exact u2_s _ _ _ _, fun q v hq => ?_⟩, hM.2.2.2.2.1.fr (hwk 23 (by omega)) (hwk 24 (by omega)) rfl rfl rfl, hM.2.2.2.2.2.fr (hwk 21 (by omega))⟩
              show u2 (u2 (u2 (u2 w 26 _ _) 27 _ _) 28 _ _) 25 0 _ 26 q = _ ∧ u2 (u2 (u2 (u2 w 26 _ _) 27 _ _) 28 _ _) 25 0 _ 27 q = _ ∧ u2 (u2 (u2 (u2 w 26 _ _) 27 _ _) 28 _ _) 25 0 _ 28 q = _
              rw [u2_k (show (26 : Nat) ≠ 25 by decide), u2_k (show (27 : Nat) ≠ 25 by decide), u2_k (show (28 : Nat) ≠ 25 by decide), u2_k (show (26 : Nat) ≠ 28 by decide), u2_k (show (26 : Nat) ≠ 27 by decide), u2_k (show (27 : Nat) ≠ 28 by decide)]
              by_cases hq1 : q < wt.length
              · rw [List.getElem?_append_left hq1] at hq
                rw [u2_i (by omega), u2_i (by omega), u2_i (by omega), u2_k (show (27 : Nat) ≠ 26 by decide), u2_k (show (28 : Nat) ≠ 27 by decide), u2_k (show (28 : Nat) ≠ 26 by decide)]
                exact hM.2.2.2.1.2 q v hq
              · have hq2 := (List.getElem?_eq_some_iff.mp hq).1
                have hq3 : q = wt.length := by rw [hlen] at hq2; omega
                subst hq3
                simp at hq
                subst hq
                rw [u2_s, u2_s, u2_s]
                exact ⟨rfl, rfl, rfl⟩
            have hI' : INV (N + 1) nn lo tr (wt ++ [(s, k, nn 0 10)]) := by
              obtain ⟨i1, i2, i3, ⟨i4, i5, i6⟩, i7⟩ := hI
              refine ⟨i1, i2, i3, ⟨⟨by rw [hlen]; omega, fun v hv => ?_⟩, fun k hk => by rw [hlen]; have := i5 k hk; omega, by omega⟩, i7⟩
              rcases List.mem_append.mp hv with q | q
              · exact i4.2 v q
              · simp at q
                subst q
                exact ⟨hs5, hk, hn6, hok⟩
            refine ⟨nI (wt.length + 1), c2, lg2, z2, w', nn, lo, tr, _, ?_, ?_, f2, hM', hI', hKE.mono (by omega) (by omega)⟩
            · simp only [fX7_watch]
              rw [xO hW, jr_bd (x_srv hX hs hn), xO hW, jr_bd (x_ses hX hk hn6), jr_f (by simp), jr_f (by simp), sI3 hW _ _ _ _ hs5, hX.2.1 1 s (by simp [dX, hs5]), jr_f hupx, xI10 hW, hX.2.1 0 10 rfl, jr_f hpx, xR2 hW, yO hW, jr_bd hsz, jr_t (show nI wt.length < (10 : Int32) from nI_lt (b := 10) hwl (by omega)), xR2 hW, jr_bd e1, jr_rd e2, hX.2.1 0 10 rfl, jr_bd e3]
              rw [show c.1 12 0 = (cV c k).1 12 0 from rfl, yO e4.1, jr_bd hadd, show c.1 0 0 = (cV c k).1 0 0 from rfl, ← hc0, xR2 hW2, yO hW2, jr_bd hsz2]; rfl
            · simp only [fX8_watch]
              rw [mO hW2, jr_bd (m_srv hW2 hM hs hn), jr_f (by decide), mO hW2, jr_bd (m_ses hW2 hM hk hn6), jr_f (by decide), mR1 hW2, mG1 hW2 _ _ _ _ hs5, (hM.1.2 s hs5).1 hs, jr_f hupx, mI20 hW2, hM.1.1.2.2.2.2.2.1, jr_f hpm, mI25 hW2, hM.2.2.2.1.1, jr_f (show ¬ nI wt.length = 10 from fun q => h10 ((nI_eq (b := 10) (by omega) (by omega)).mp q)), mR26 hW2, mI25 hW2, hM.2.2.2.1.1, mS26 hW2 _ _ _ _ _ (by omega), mR27 hW2, mI25 hW2, u2_k (by decide), hM.2.2.2.1.1, mS27 hW2 _ _ _ _ _ (by omega), mR28 hW2, mI25 hW2, u2_k (by decide), u2_k (by decide), hM.2.2.2.1.1, mO hW2]
              have hMp2 : RM (u2 (u2 w 26 wt.length (nI s)) 27 wt.length (nI k)) nn lo tr [] → True := fun _ => trivial
              have hpath2 : fX8_path (c2.1 20 0) (qE c2 lg2 z2 (u2 (u2 w 26 wt.length (nI s)) 27 wt.length (nI k))) = some (nI (p7 (nn 0 10)), qE c2 lg2 z2 (u2 (u2 w 26 wt.length (nI s)) 27 wt.length (nI k))) := by
                obtain ⟨ns, n1, n2', n3, n4, n5⟩ := hM.2.2.2.2.2
                have h20 : u2 (u2 w 26 wt.length (nI s)) 27 wt.length (nI k) 20 0 = nI ns.length := by rw [u2_k (by decide), u2_k (by decide), hM.1.1.2.2.2.2.2.1, n1]
                have h21 : ∀ j a, ns[j]? = some a → u2 (u2 w 26 wt.length (nI s)) 27 wt.length (nI k) 21 j = nI a := fun j a hj => by rw [u2_k (by decide), u2_k (by decide)]; exact n5 j a hj
                rw [← n1] at n2'
                show fX8_path_4 (4091 + 5) (c2.1 20 0) (nI 0) (nI 0) _ = _
                rw [m_path_s hW2 h20 n2' h21 (by omega), m_path_s hW2 h20 n2' h21 (by omega), m_path_s hW2 h20 n2' h21 (by omega), m_path_s hW2 h20 n2' h21 (by omega), fX8_path_4, jr_t (show (4 : Int32) ≤ nI (0 + 1 + 1 + 1 + 1) by decide +kernel), ns_p7 n2' n3, ← n4]
                rfl
              rw [jr_bd hpath2, mS28 hW2 _ _ _ _ _ (by omega), mI25 hW2, u2_k (by decide), u2_k (by decide), u2_k (by decide), hM.2.2.2.1.1, nI_1, mP25 hW2, mI25 hW2, u2_s]; rfl
    · refine GO.read (v := -1) hX hM hI ?_ ?_
      · simp only [fX7_watch]
        rw [xO hW, jr_bd (x_srv hX hs hn), xO hW, jr_bd (x_sesn hX hy), jr_f (by simp), jr_t rfl]; rfl
      · simp only [fX8_watch]
        rw [mO hW, jr_bd (m_srv hW hM hs hn), jr_f (by decide), mO hW, jr_bd (m_sesn hW hM hy hn6), jr_t rfl]; rfl
  · refine GO.read (v := -1) hX hM hI ?_ ?_
    · simp only [fX7_watch]
      rcases ix_cases y (n := nn 0 5) (by omega) with ⟨k, hk, rfl⟩ | hy
      · rw [xO hW, jr_bd (x_srvn hX hx), xO hW, jr_bd (x_ses hX hk hn6), jr_t rfl]; rfl
      · rw [xO hW, jr_bd (x_srvn hX hx), xO hW, jr_bd (x_sesn hX hy), jr_t rfl]; rfl
    · simp only [fX8_watch]
      rw [mO hW, jr_bd (m_srvn hW hM hx hn), jr_t rfl]; rfl
end WA
