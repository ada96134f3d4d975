/-! ===== the law's loop ===== -/
section LW
variable {c : CX} {lg : LG} {z w : ZZ} {N : Nat} {nn : NN} {lo : Nat → List TX} {tr : Nat → List ND} {wt : List WT}
/-- the state after a call -/
def AF (c : CX) (N : Nat) (K : jm_P Int32) (r : Option (Int32 × jm_S)) : Prop := ∃ c' lg' z' w' nn' lo' tr' wt', r = K (qE c' lg' z' w') ∧ RX c' lg' z' nn' lo' tr' wt' ∧ RM w' nn' lo' tr' wt' ∧ INV (N + 1) nn' lo' tr' wt' ∧ KE c c' 210 11700
theorem law0 {fx fm : Nat → jm_P Int32} {K : jm_P Int32} (hW : qW c lg) (h : GO fx fm c lg z w N) : AF c N K ((jm_rd (jm_o (some (c.1 0 0)) 8) fun a => jm_bd (fx a) fun v => jm_rd (jm_o (some (c.1 20 0)) 9) fun a' => jm_bd (fm a') fun v' => (if v = v' then K else jm_rd (jm_z 0) fun _ => jm_ret 0)) (qE c lg z w)) := by
  obtain ⟨v, c', lg', z', w', nn', lo', tr', wt', h1, h2, h3, h4, h5, h6⟩ := h
  refine ⟨c', lg', z', w', nn', lo', tr', wt', ?_, h3, h4, h5, h6⟩
  rw [xO hW, jr_bd h1, ← h6.1 20 0 (by decide), mO h3.1, jr_bd h2, jr_t rfl]
theorem law1 {fx fm : Nat → jm_P Int32} {K : jm_P Int32} {x : Int32} {L : Nat} (hi : ∀ S, jm_inL x L S = some ()) (hW : qW c lg) (h : GO fx fm c lg z w N) : AF c N K ((jm_rd (jm_inL x L) fun _ => jm_rd (jm_o (some (c.1 0 0)) 8) fun a => jm_bd (fx a) fun v => jm_rd (jm_inL x L) fun _ => jm_rd (jm_o (some (c.1 20 0)) 9) fun a' => jm_bd (fm a') fun v' => (if v = v' then K else jm_rd (jm_z 0) fun _ => jm_ret 0)) (qE c lg z w)) := by
  obtain ⟨v, c', lg', z', w', nn', lo', tr', wt', h1, h2, h3, h4, h5, h6⟩ := h
  refine ⟨c', lg', z', w', nn', lo', tr', wt', ?_, h3, h4, h5, h6⟩
  rw [jr_rd (hi _), xO hW, jr_bd h1, jr_rd (hi _), ← h6.1 20 0 (by decide), mO h3.1, jr_bd h2, jr_t rfl]
theorem law2 {fx fm : Nat → jm_P Int32} {K : jm_P Int32} {x y : Int32} {L : Nat} (hi : ∀ S, jm_inL x L S = some ()) (hj : ∀ S, jm_inL y L S = some ()) (hW : qW c lg) (h : GO fx fm c lg z w N) : AF c N K ((jm_rd (jm_inL x L) fun _ => jm_rd (jm_inL y L) fun _ => jm_rd (jm_o (some (c.1 0 0)) 8) fun a => jm_bd (fx a) fun v => jm_rd (jm_inL x L) fun _ => jm_rd (jm_inL y L) fun _ => jm_rd (jm_o (some (c.1 20 0)) 9) fun a' => jm_bd (fm a') fun v' => (if v = v' then K else jm_rd (jm_z 0) fun _ => jm_ret 0)) (qE c lg z w)) := by
  obtain ⟨v, c', lg', z', w', nn', lo', tr', wt', h1, h2, h3, h4, h5, h6⟩ := h
  refine ⟨c', lg', z', w', nn', lo', tr', wt', ?_, h3, h4, h5, h6⟩
  rw [jr_rd (hi _), jr_rd (hj _), xO hW, jr_bd h1, jr_rd (hi _), jr_rd (hj _), ← h6.1 20 0 (by decide), mO h3.1, jr_bd h2, jr_t rfl]
theorem inL_ok {i L : Nat} (h : i < L) (hL : L < 2 ^ 31) : ∀ S, jm_inL (nI i) L S = some () := fun S => if_neg (jr_in h hL)
/-- one turn of the loop -/
theorem law_turn {L i f : Nat} {xs : Nat → Int32} (hreset : ∀ (x : Int32) {c : CX} {lg : LG} {z w : ZZ} {N : Nat} {nn : NN} {lo : Nat → List TX} {tr : Nat → List ND} {wt : List WT}, RX c lg z nn lo tr wt → RM w nn lo tr wt → INV N nn lo tr wt → N < 600 → GO (fun a => fX7_reset a x) (fun a => fX8_reset a x) c lg z w N) (hL : L ≤ 1536) (hi : i + 3 ≤ L) (hX : RX c lg z nn lo tr wt) (hM : RM w nn lo tr wt) (hI : INV N nn lo tr wt) (hN : N < 600) : AF c N (fL_law_18 L xs f (some (c.1 0 0)) (some (c.1 20 0)) (nI (i + 3))) (fL_law_18 L xs (f + 1) (some (c.1 0 0)) (some (c.1 20 0)) (nI i) (qE c lg z w)) := by
  have hW := hX.1
  have i1 : ∀ S, jm_inL (nI i + 1) L S = some () := by rw [nI_1]; exact inL_ok (by omega) (by omega)
  have i2 : ∀ S, jm_inL (nI i + 2) L S = some () := by rw [show nI i + 2 = nI (i + 2) from nI_add i 2]; exact inL_ok (by omega) (by omega)
  have e3 : nI i + 3 = nI (i + 3) := nI_add i 3
  rw [fL_law_18, jr_f (show ¬ (Int32.ofNat L - 3) < nI i by
    show ¬ (nI L - nI 3) < nI i
    rw [nI_sub (by omega)]
    exact nI_nlt (by omega) (by omega)), jr_rd (inL_ok (by omega) (by omega) _), e3]
  by_cases h0 : (xs (nI i).toNatClampNeg &&& 31) = 0
  · rw [jr_t h0]
    exact law1 i1 hW (hreset (xs ((nI i + 1) : Int32).toNatClampNeg) hX hM hI (by omega))
  rw [jr_f h0]
  by_cases h1 : (xs (nI i).toNatClampNeg &&& 31) = 1
  · rw [jr_t h1]
    exact law1 i1 hW (p_crash (xs ((nI i + 1) : Int32).toNatClampNeg) hX hM hI (by omega))
  rw [jr_f h1]
  by_cases h2 : (xs (nI i).toNatClampNeg &&& 31) = 2
  · rw [jr_t h2]
    exact law1 i1 hW (p_restart (xs ((nI i + 1) : Int32).toNatClampNeg) hX hM hI)
  rw [jr_f h2]
  by_cases h3 : (xs (nI i).toNatClampNeg &&& 31) = 3
  · rw [jr_t h3]
    exact law0 hW (p_elect hX hM hI (by omega))
  rw [jr_f h3]
  by_cases h4 : (xs (nI i).toNatClampNeg &&& 31) = 4
  · rw [jr_t h4]
    exact law1 i1 hW (p_sync (xs ((nI i + 1) : Int32).toNatClampNeg) hX hM hI (by omega))
  rw [jr_f h4]
  by_cases h5 : (xs (nI i).toNatClampNeg &&& 31) = 5
  · rw [jr_t h5]
    exact law1 i1 hW (p_accept (xs ((nI i + 1) : Int32).toNatClampNeg) hX hM hI (by omega))
  rw [jr_f h5]
  by_cases h6 : (xs (nI i).toNatClampNeg &&& 31) = 6
  · rw [jr_t h6]
    exact law1 i1 hW (p_heart (xs ((nI i + 1) : Int32).toNatClampNeg) hX hM hI (by omega))
  rw [jr_f h6]
  by_cases h7 : (xs (nI i).toNatClampNeg &&& 31) = 7
  · rw [jr_t h7]
    exact law0 hW (p_leader hX hM hI)
  rw [jr_f h7]
  by_cases h8 : (xs (nI i).toNatClampNeg &&& 31) = 8
  · rw [jr_t h8]
    exact law1 i1 hW (p_lastId (xs ((nI i + 1) : Int32).toNatClampNeg) hX hM hI)
  rw [jr_f h8]
  by_cases h9 : (xs (nI i).toNatClampNeg &&& 31) = 9
  · rw [jr_t h9]
    exact law1 i1 hW (p_applied (xs ((nI i + 1) : Int32).toNatClampNeg) hX hM hI)
  rw [jr_f h9]
  by_cases h10 : (xs (nI i).toNatClampNeg &&& 31) = 10
  · rw [jr_t h10]
    exact law0 hW (p_committed hX hM hI)
  rw [jr_f h10]
  by_cases h11 : (xs (nI i).toNatClampNeg &&& 31) = 11
  · rw [jr_t h11]
    exact law1 i1 hW (p_epoch (xs ((nI i + 1) : Int32).toNatClampNeg) hX hM hI)
  rw [jr_f h11]
  by_cases h12 : (xs (nI i).toNatClampNeg &&& 31) = 12
  · rw [jr_t h12]
    exact law1 i1 hW (p_append (xs ((nI i + 1) : Int32).toNatClampNeg) hX hM hI)
  rw [jr_f h12]
  by_cases h13 : (xs (nI i).toNatClampNeg &&& 31) = 13
  · rw [jr_t h13]
    exact law0 hW (p_clear hX hM hI)
  rw [jr_f h13]
  by_cases h14 : (xs (nI i).toNatClampNeg &&& 31) = 14
  · rw [jr_t h14]
    exact law2 i1 i2 hW (p_create (xs ((nI i + 1) : Int32).toNatClampNeg) (xs ((nI i + 2) : Int32).toNatClampNeg) hX hM hI (by omega))
  rw [jr_f h14]
  by_cases h15 : (xs (nI i).toNatClampNeg &&& 31) = 15
  · rw [jr_t h15]
    exact law2 i1 i2 hW (p_set (xs ((nI i + 1) : Int32).toNatClampNeg) (xs ((nI i + 2) : Int32).toNatClampNeg) hX hM hI (by omega))
  rw [jr_f h15]
  by_cases h16 : (xs (nI i).toNatClampNeg &&& 31) = 16
  · rw [jr_t h16]
    exact law1 i1 hW (p_del (xs ((nI i + 1) : Int32).toNatClampNeg) hX hM hI (by omega))
  rw [jr_f h16]
  by_cases h17 : (xs (nI i).toNatClampNeg &&& 31) = 17
  · rw [jr_t h17]
    exact law0 hW (p_open hX hM hI)
  rw [jr_f h17]
  by_cases h18 : (xs (nI i).toNatClampNeg &&& 31) = 18
  · rw [jr_t h18]
    exact law1 i1 hW (p_close (xs ((nI i + 1) : Int32).toNatClampNeg) hX hM hI (by omega))
  rw [jr_f h18]
  by_cases h19 : (xs (nI i).toNatClampNeg &&& 31) = 19
  · rw [jr_t h19]
    exact law2 i1 i2 hW (p_watch (xs ((nI i + 1) : Int32).toNatClampNeg) (xs ((nI i + 2) : Int32).toNatClampNeg) hX hM hI (by omega))
  rw [jr_f h19]
  by_cases h20 : (xs (nI i).toNatClampNeg &&& 31) = 20
  · rw [jr_t h20]
    exact law1 i1 hW (p_evCount (xs ((nI i + 1) : Int32).toNatClampNeg) hX hM hI)
  rw [jr_f h20]
  by_cases h21 : (xs (nI i).toNatClampNeg &&& 31) = 21
  · rw [jr_t h21]
    exact law2 i1 i2 hW (p_evAt (xs ((nI i + 1) : Int32).toNatClampNeg) (xs ((nI i + 2) : Int32).toNatClampNeg) hX hM hI (by omega))
  rw [jr_f h21]
  by_cases h22 : (xs (nI i).toNatClampNeg &&& 31) = 22
  · rw [jr_t h22]
    exact law1 i1 hW ((p_node (xs ((nI i + 1) : Int32).toNatClampNeg) hX hM hI).1)
  rw [jr_f h22]
  by_cases h23 : (xs (nI i).toNatClampNeg &&& 31) = 23
  · rw [jr_t h23]
    exact law1 i1 hW ((p_node (xs ((nI i + 1) : Int32).toNatClampNeg) hX hM hI).2.1)
  rw [jr_f h23]
  by_cases h24 : (xs (nI i).toNatClampNeg &&& 31) = 24
  · rw [jr_t h24]
    exact law1 i1 hW ((p_node (xs ((nI i + 1) : Int32).toNatClampNeg) hX hM hI).2.2)
  rw [jr_f h24]
  by_cases h25 : (xs (nI i).toNatClampNeg &&& 31) = 25
  · rw [jr_t h25]
    exact law1 i1 hW (p_child (xs ((nI i + 1) : Int32).toNatClampNeg) hX hM hI)
  rw [jr_f h25]
  by_cases h26 : (xs (nI i).toNatClampNeg &&& 31) = 26
  · rw [jr_t h26]
    exact law1 i1 hW (p_nodes (xs ((nI i + 1) : Int32).toNatClampNeg) hX hM hI)
  rw [jr_f h26]
  by_cases h27 : (xs (nI i).toNatClampNeg &&& 31) = 27
  · rw [jr_t h27]
    exact law2 i1 i2 hW (p_common (xs ((nI i + 1) : Int32).toNatClampNeg) (xs ((nI i + 2) : Int32).toNatClampNeg) hX hM hI)
  rw [jr_f h27]
  exact ⟨c, lg, z, w, nn, lo, tr, wt, rfl, hX, hM, hI.succ, KE.rfl.mono (by omega) (by omega)⟩
theorem law_loop {L : Nat} {xs : Nat → Int32} (hreset : ∀ (x : Int32) {c : CX} {lg : LG} {z w : ZZ} {N : Nat} {nn : NN} {lo : Nat → List TX} {tr : Nat → List ND} {wt : List WT}, RX c lg z nn lo tr wt → RM w nn lo tr wt → INV N nn lo tr wt → N < 600 → GO (fun a => fX7_reset a x) (fun a => fX8_reset a x) c lg z w N) (hL : L ≤ 1536) : ∀ n j (c : CX) (lg : LG) (z w : ZZ) (nn : NN) (lo : Nat → List TX) (tr : Nat → List ND) (wt : List WT), L < 3 * j + 3 * n + 3 → n ≤ 512 → j + n ≤ 550 → RX c lg z nn lo tr wt → RM w nn lo tr wt → INV j nn lo tr wt → ∀ f, n < f → ∃ Sf : jm_S, fL_law_18 L xs f (some (c.1 0 0)) (some (c.1 20 0)) (nI (3 * j)) (qE c lg z w) = some (1, Sf) ∧ Sf.2.1 ≤ c.2.2.2.2.2.1 + 210 * n ∧ Sf.2.2.1 ≤ c.2.2.2.2.2.2.1 + 11700 * n := by
  intro n
  have stop : ∀ (j f : Nat) (c : CX) (S : jm_S), j ≤ 600 → L < 3 * j + 3 → fL_law_18 L xs (f + 1) (some (c.1 0 0)) (some (c.1 20 0)) (nI (3 * j)) S = some (1, S) := by
    intro j f c S hj h
    rw [fL_law_18, jr_t]
    · rfl
    · show nI L - nI 3 < nI (3 * j)
      by_cases h3 : 3 ≤ L
      · rw [nI_sub h3]; exact nI_lt (by omega) (by omega)
      · have h1 := pk_sneg (a := L) (b := 3) (by omega) (by omega)
        exact Int32.lt_of_lt_of_le h1 (nI_pos' (by omega))
  induction n with
  | zero =>
    intro j c lg z w nn lo tr wt hj hn hjn hX hM hI f hf
    obtain ⟨f, rfl⟩ : ∃ k', f = k' + 1 := ⟨f - 1, by omega⟩
    exact ⟨_, stop j f c _ (by omega) (by omega), Nat.le_refl _, Nat.le_refl _⟩
  | succ n ih =>
    intro j c lg z w nn lo tr wt hj hn hjn hX hM hI f hf
    obtain ⟨f, rfl⟩ : ∃ k', f = k' + 1 := ⟨f - 1, by omega⟩
    by_cases h : L < 3 * j + 3
    · exact ⟨_, stop j f c _ (by omega) h, Nat.le_add_right _ _, Nat.le_add_right _ _⟩
    · obtain ⟨c', lg', z', w', nn', lo', tr', wt', e1, e2, e3, e4, e5⟩ := law_turn (f := f) hreset hL (show 3 * j + 3 ≤ L by omega) hX hM hI (by omega)
      obtain ⟨Sf, f1, f2, f3⟩ := ih (j + 1) c' lg' z' w' nn' lo' tr' wt' (by omega) (by omega) (by omega) e2 e3 e4 f (by omega)
      have k1 := e5.2.2.1
      have k2 := e5.2.2.2
      refine ⟨Sf, ?_, by omega, by omega⟩
      rw [e1]
      rw [e5.1 0 0 (by decide), e5.1 20 0 (by decide), show 3 * (j + 1) = 3 * j + 3 by omega] at f1
      exact f1
end LW
