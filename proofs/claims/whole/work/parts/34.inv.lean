/-! ===== what holds between two calls; the calls that only read ===== -/
def cn (f : Nat → Bool) : Nat → Nat
  | 0 => 0
  | n + 1 => cn f n + if f n = true then 1 else 0
theorem cn_le (f : Nat → Bool) : ∀ n, cn f n ≤ n := by
  intro n
  induction n with
  | zero => exact Nat.le_refl _
  | succ n ih => simp only [cn]; split <;> omega
theorem cn_ext {f : Nat → Bool} {n : Nat} : ∀ k, (∀ j, n ≤ j → j < n + k → f j = false) → cn f (n + k) = cn f n := by
  intro k
  induction k with
  | zero => intro _; rfl
  | succ k ih =>
    intro h
    show cn f (n + k) + (if f (n + k) = true then 1 else 0) = _
    rw [ih (fun j h1 h2 => h j h1 (by omega)), h (n + k) (by omega) (by omega)]
    simp
theorem cn_5 {f : Nat → Bool} {n : Nat} (hn : n ≤ 5) (h : ∀ j, n ≤ j → j < 5 → f j = false) : cn f 5 = cn f n := by
  have := cn_ext (f := f) (n := n) (5 - n) (fun j h1 h2 => h j h1 (by omega))
  rw [show n + (5 - n) = 5 by omega] at this
  exact this
theorem cn_mono {f g : Nat → Bool} : ∀ n, (∀ j, j < n → f j = true → g j = true) → cn f n ≤ cn g n := by
  intro n
  induction n with
  | zero => intro _; exact Nat.le_refl _
  | succ n ih =>
    intro h
    have h1 := ih (fun j hj => h j (by omega))
    simp only [cn]
    have h2 := h n (by omega)
    by_cases e : f n = true
    · rw [if_pos e, if_pos (h2 e)]; omega
    · rw [if_neg e]; split <;> omega
theorem cn_congr {f g : Nat → Bool} {n : Nat} (h : ∀ j, j < n → f j = g j) : cn f n = cn g n := Nat.le_antisymm (cn_mono n (fun j hj e => by rw [← h j hj]; exact e)) (cn_mono n (fun j hj e => by rw [h j hj]; exact e))
/-- two majorities meet -/
theorem cn_meet {f g : Nat → Bool} : ∀ n, n < cn f n + cn g n → ∃ j, j < n ∧ f j = true ∧ g j = true := by
  intro n
  induction n with
  | zero => intro h; simp [cn] at h
  | succ n ih =>
    intro h
    by_cases e : f n = true ∧ g n = true
    · exact ⟨n, by omega, e.1, e.2⟩
    · simp only [cn] at h
      have h1 : n < cn f n + cn g n := by
        by_cases e1 : f n = true
        · have e2 : ¬ g n = true := fun q => e ⟨e1, q⟩
          rw [if_pos e1, if_neg e2] at h
          omega
        · rw [if_neg e1] at h
          split at h <;> omega
      obtain ⟨j, h2, h3⟩ := ih h1
      exact ⟨j, by omega, h3⟩
def qm (nn : NN) : Nat := nn 0 4 / 2 + 1
def INV (N : Nat) (nn : NN) (lo : Nat → List TX) (tr : Nat → List ND) (wt : List WT) : Prop :=
  (3 ≤ nn 0 4 ∧ nn 0 4 ≤ 5 ∧ nn 0 5 ≤ 6 ∧ okp (nn 0 10) = true ∧ (nn 0 10 = 0 ↔ nn 0 11 = 0) ∧ nn 0 11 ≤ 4) ∧
  (∀ i, i < 5 → nn 1 i ≤ 1 ∧ nn 2 i ≤ 1 ∧ (nn 0 4 ≤ i → nn 1 i = 0) ∧ (nn 2 i = 1 → nn 1 i = 1 ∧ nn 3 i = nn 0 7) ∧ nn 3 i ≤ nn 0 7) ∧
  ((nn 0 6 = 4294967288 ∧ ∀ i, i < 5 → nn 2 i = 0) ∨ (nn 0 6 < 5 ∧ nn 2 (nn 0 6) = 1 ∧ tr 5 = rp (lo (nn 0 6)))) ∧
  (WV nn wt ∧ (∀ k, k < 6 → nn 10 k + wt.length ≤ N) ∧ nn 0 7 ≤ N) ∧
  (∀ i, i < 5 → (lo i).length ≤ 40 ∧ RV (lo i) ∧ tr i = rp ((lo i).take (nn 4 i)) ∧ nn 4 i ≤ (lo i).length ∧ nn 4 i ≤ nn 0 9) ∧
  (∃ g, g < 5 ∧ (nn 0 6 < 5 → nn 0 6 = g) ∧ nn 0 9 ≤ (lo g).length ∧ nn 0 8 ≤ (lo g).length ∧ (∀ i, i < 5 → nn 3 i = nn 0 7 → lo i <+: lo g) ∧ (∀ i, i < 5 → (lo i).take (nn 4 i) = (lo g).take (nn 4 i)) ∧ qm nn ≤ cn (fun i => decide (nn 3 i = nn 0 7 ∧ nn 0 9 ≤ (lo i).length)) (nn 0 4)) ∧
  (∀ i, i < 5 → (∀ (j k : Nat) (x y : TX), (lo i)[j]? = some x → (lo i)[k]? = some y → j < k → x.1 < y.1) ∧ ∀ x : TX, x ∈ lo i → 0 < x.1 ∧ x.1 ≤ 1000 * nn 0 7 + nn 0 8) ∧
  (∀ (i k : Nat) (x y : TX), i < 5 → k < 5 → x ∈ lo i → y ∈ lo k → x.1 = y.1 → x = y)
section IV
variable {c : CX} {lg : LG} {z w : ZZ} {N : Nat} {nn : NN} {lo : Nat → List TX} {tr : Nat → List ND} {wt : List WT}
theorem INV.succ (h : INV N nn lo tr wt) : INV (N + 1) nn lo tr wt := by
  obtain ⟨a, b, d, ⟨e1, e2, e3⟩, f⟩ := h
  exact ⟨a, b, d, ⟨e1, fun k hk => Nat.le_succ_of_le (e2 k hk), Nat.le_succ_of_le e3⟩, f⟩
theorem INV.CB (h : INV N nn lo tr wt) (hN : N < 1000) : CB nn wt := ⟨h.2.2.2.1.1, fun k hk => by have := h.2.2.2.1.2.1 k hk; omega⟩
theorem INV.TV (h : INV N nn lo tr wt) {i : Nat} (hi : i < 5) : TV (tr i) := by
  obtain ⟨h1, h2, h3, -⟩ := h.2.2.2.2.1 i hi
  rw [h3]
  exact rp_TV h2 _
theorem INV.tl (h : INV N nn lo tr wt) : ∀ i, i < 5 → (tr i).length ≤ 12 := fun _ hi => (h.TV hi).2.2
theorem INV.ll (h : INV N nn lo tr wt) : ∀ i, i < 5 → (lo i).length ≤ 40 := fun i hi => (h.2.2.2.2.1 i hi).1
theorem INV.ib (h : INV N nn lo tr wt) : ∀ i x, i < 5 → x ∈ lo i → x.1 < 2 ^ 32 := by
  intro i x hi hx
  obtain ⟨k, hk⟩ := List.getElem?_of_mem hx
  have := ((h.2.2.2.2.1 i hi).2.1 k x hk).1
  omega
/-- both sides answer alike, and go on -/
def GO (fx fm : Nat → jm_P Int32) (c : CX) (lg : LG) (z w : ZZ) (N : Nat) : Prop := ∃ v c' lg' z' w' nn' lo' tr' wt', fx (c.1 0 0) (qE c lg z w) = some (v, qE c' lg' z' w) ∧ fm (c'.1 20 0) (qE c' lg' z' w) = some (v, qE c' lg' z' w') ∧ RX c' lg' z' nn' lo' tr' wt' ∧ RM w' nn' lo' tr' wt' ∧ INV (N + 1) nn' lo' tr' wt' ∧ KE c c' 210 11700
theorem GO.read {fx fm : Nat → jm_P Int32} {v : Int32} (hX : RX c lg z nn lo tr wt) (hM : RM w nn lo tr wt) (hI : INV N nn lo tr wt) (h1 : fx (c.1 0 0) (qE c lg z w) = some (v, qE c lg z w)) (h2 : fm (c.1 20 0) (qE c lg z w) = some (v, qE c lg z w)) : GO fx fm c lg z w N :=
  ⟨v, c, lg, z, w, nn, lo, tr, wt, h1, h2, hX, hM, hI.succ, KE.rfl.mono (by omega) (by omega)⟩
/-! servers and sessions by their numbers -/
theorem toI64 {x y : Int32} : x.toInt64 < y.toInt64 ↔ x < y := by
  rw [Int64.lt_iff_toInt_lt, Int32.lt_iff_toInt_lt, Int32.toInt_toInt64, Int32.toInt_toInt64]
theorem m_in {x l h : Int32} {S : jm_S} : fX8_in x.toInt64 l.toInt64 h.toInt64 S = some (if x < l then 0 else if h < x then 0 else 1, S) := by
  unfold fX8_in
  by_cases h1 : x < l
  · rw [jr_t ((lg_cmp_lt _ _).mpr (toI64.mpr h1)), if_pos h1]; rfl
  · rw [jr_f (fun q => h1 (toI64.mp ((lg_cmp_lt _ _).mp q))), if_neg h1]
    by_cases h2 : h < x
    · rw [jr_t ((lg_cmp_gt _ _).mpr (toI64.mpr h2)), if_pos h2]; rfl
    · rw [jr_f (fun q => h2 (toI64.mp ((lg_cmp_gt _ _).mp q))), if_neg h2]; rfl
theorem i32_nlt {a b : Int32} (h : a < b) : ¬ b ≤ a := Int32.not_le.mpr h
/-- a number is that of one of n, or of none -/
theorem ix_cases (x : Int32) {n : Nat} (hn : n < 2 ^ 31) : (∃ s, s < n ∧ x = nI s) ∨ (x < 0 ∨ nI n ≤ x) := by
  rcases pk_ix x hn with h | h | h
  · exact Or.inr (Or.inl h)
  · exact Or.inr (Or.inr h)
  · exact Or.inl h
theorem m_in_s {s n : Nat} {S : jm_S} (hs : s < n) (hn : n < 2 ^ 31) : fX8_in (nI s).toInt64 0 ((nI n - 1).toInt64) S = some (1, S) := by
  have e := m_in (x := nI s) (l := 0) (h := nI n - 1) (S := S)
  rw [if_neg (nI_pos (by omega)), nI_sub1 (by omega), if_neg (nI_nlt (by omega) (by omega)), ← nI_sub1 (by omega)] at e
  exact e
theorem m_in_n {x : Int32} {n : Nat} {S : jm_S} (hx : x < 0 ∨ nI n ≤ x) (hn : n < 2 ^ 31) : fX8_in x.toInt64 0 ((nI n - 1).toInt64) S = some (0, S) := by
  have e := m_in (x := x) (l := 0) (h := nI n - 1) (S := S)
  by_cases h0 : x < 0
  · rw [if_pos h0] at e
    exact e
  · rw [if_neg h0] at e
    have h1 : nI n ≤ x := hx.resolve_left h0
    by_cases hn0 : n = 0
    · subst hn0
      rw [if_pos] at e
      · exact e
      · have h2 : nI 0 - 1 < (0 : Int32) := by decide +kernel
        exact Int32.lt_of_lt_of_le h2 (Int32.not_lt.mp h0)
    · rw [if_pos] at e
      · exact e
      · rw [nI_sub1 (by omega)]
        exact Int32.lt_of_lt_of_le (nI_lt (show n - 1 < n by omega) hn) h1
theorem m_srv {s : Nat} (hW : qW c lg) (h : RM w nn lo tr wt) (hs : s < nn 0 4) (hn : nn 0 4 ≤ 5) : fX8_isServer (c.1 20 0) (nI s) (qE c lg z w) = some (1, qE c lg z w) := by
  unfold fX8_isServer
  rw [mI0 hW, h.1.1.1, jr_bd (m_in_s hs (by omega))]
  rfl
theorem m_srvn {x : Int32} (hW : qW c lg) (h : RM w nn lo tr wt) (hx : x < 0 ∨ nI (nn 0 4) ≤ x) (hn : nn 0 4 ≤ 5) : fX8_isServer (c.1 20 0) x (qE c lg z w) = some (0, qE c lg z w) := by
  unfold fX8_isServer
  rw [mI0 hW, h.1.1.1, jr_bd (m_in_n hx (by omega))]
  rfl
theorem m_ses {s : Nat} (hW : qW c lg) (h : RM w nn lo tr wt) (hs : s < nn 0 5) (hn : nn 0 5 ≤ 6) : fX8_isSession (c.1 20 0) (nI s) (qE c lg z w) = some (1, qE c lg z w) := by
  unfold fX8_isSession
  rw [mI22 hW, h.1.1.2.2.2.2.2.2, jr_bd (m_in_s hs (by omega))]
  rfl
theorem m_sesn {x : Int32} (hW : qW c lg) (h : RM w nn lo tr wt) (hx : x < 0 ∨ nI (nn 0 5) ≤ x) (hn : nn 0 5 ≤ 6) : fX8_isSession (c.1 20 0) x (qE c lg z w) = some (0, qE c lg z w) := by
  unfold fX8_isSession
  rw [mI22 hW, h.1.1.2.2.2.2.2.2, jr_bd (m_in_n hx (by omega))]
  rfl
theorem x_srv {s : Nat} (h : RX c lg z nn lo tr wt) (hs : s < nn 0 4) (hn : nn 0 4 ≤ 5) : fX7_findServer (c.1 0 0) (nI s) (qE c lg z w) = some (some (c.1 2 s), qE c lg z w) := by
  unfold fX7_findServer
  rw [jr_f (nI_pos (by omega)), xI4 h.1, h.2.1 0 4 rfl, jr_t (nI_lt hs (by omega)), xR0 h.1, xSg h.1 _ _ _ _ (by omega)]
  rfl
theorem x_srvn {x : Int32} (h : RX c lg z nn lo tr wt) (hx : x < 0 ∨ nI (nn 0 4) ≤ x) : fX7_findServer (c.1 0 0) x (qE c lg z w) = some (none, qE c lg z w) := by
  unfold fX7_findServer
  by_cases h0 : x < 0
  · rw [jr_t h0]; rfl
  · rw [jr_f h0, xI4 h.1, h.2.1 0 4 rfl, jr_f (Int32.not_lt.mpr (hx.resolve_left h0))]; rfl
theorem x_ses {s : Nat} (h : RX c lg z nn lo tr wt) (hs : s < nn 0 5) (hn : nn 0 5 ≤ 6) : fX7_findSession (c.1 0 0) (nI s) (qE c lg z w) = some (some (c.1 10 s), qE c lg z w) := by
  unfold fX7_findSession
  rw [jr_f (nI_pos (by omega)), xI5 h.1, h.2.1 0 5 rfl, jr_t (nI_lt hs (by omega)), xR1 h.1, eG h.1 _ _ _ _ (by omega)]
  rfl
theorem x_sesn {x : Int32} (h : RX c lg z nn lo tr wt) (hx : x < 0 ∨ nI (nn 0 5) ≤ x) : fX7_findSession (c.1 0 0) x (qE c lg z w) = some (none, qE c lg z w) := by
  unfold fX7_findSession
  by_cases h0 : x < 0
  · rw [jr_t h0]; rfl
  · rw [jr_f h0, xI5 h.1, h.2.1 0 5 rfl, jr_f (Int32.not_lt.mpr (hx.resolve_left h0))]; rfl
theorem ldn {g : Nat} (hg : g < 5) : ¬ nI g = -8 := by
  rw [m8_]
  intro e
  have := (nI_inj (by omega) (by omega)).mp e
  omega
/-! the calls that only read -/
theorem p_leader (hX : RX c lg z nn lo tr wt) (hM : RM w nn lo tr wt) (hI : INV N nn lo tr wt) : GO fX7_leader fX8_leader c lg z w N := by
  rcases hI.2.2.1 with ⟨h1, -⟩ | ⟨h1, -⟩
  · refine GO.read (v := -3) hX hM hI ?_ ?_
    · unfold fX7_leader
      rw [xR6 hX.1, hX.2.1 0 6 rfl, h1, chf_n, jr_t rfl]; rfl
    · unfold fX8_leader
      rw [mI5 hX.1, hM.1.1.2.1, h1, ← m8_, jr_t rfl]; rfl
  · refine GO.read (v := nI (nn 0 6)) hX hM hI ?_ ?_
    · unfold fX7_leader
      rw [xR6 hX.1, hX.2.1 0 6 rfl, chf_s h1, jr_f (by simp), xR6 hX.1, hX.2.1 0 6 rfl, chf_s h1, sI0 hX.1 _ _ _ _ h1]; rfl
    · unfold fX8_leader
      rw [mI5 hX.1, hM.1.1.2.1, jr_f (ldn h1), mI5 hX.1, hM.1.1.2.1]; rfl
theorem p_committed (hX : RX c lg z nn lo tr wt) (hM : RM w nn lo tr wt) (hI : INV N nn lo tr wt) : GO fX7_committedCount fX8_committedCount c lg z w N := by
  rcases hI.2.2.1 with ⟨h1, -⟩ | ⟨h1, -⟩
  · refine GO.read (v := -2) hX hM hI ?_ ?_
    · unfold fX7_committedCount
      rw [xR6 hX.1, hX.2.1 0 6 rfl, h1, chf_n, jr_t rfl]; rfl
    · unfold fX8_committedCount
      rw [mI5 hX.1, hM.1.1.2.1, h1, ← m8_, jr_t rfl]; rfl
  · refine GO.read (v := nI (nn 0 9)) hX hM hI ?_ ?_
    · unfold fX7_committedCount
      rw [xR6 hX.1, hX.2.1 0 6 rfl, chf_s h1, jr_f (by simp), xI9 hX.1, hX.2.1 0 9 rfl]; rfl
    · unfold fX8_committedCount
      rw [mI5 hX.1, hM.1.1.2.1, jr_f (ldn h1), mI8 hX.1, hM.1.1.2.2.2.2.1]; rfl
theorem p_lastId (x : Int32) (hX : RX c lg z nn lo tr wt) (hM : RM w nn lo tr wt) (hI : INV N nn lo tr wt) : GO (fun a => fX7_lastIdentifier a x) (fun a => fX8_lastIdentifier a x) c lg z w N := by
  have hn := hI.1.2.1
  rcases ix_cases x (n := nn 0 4) (by omega) with ⟨s, hs, rfl⟩ | hx
  · refine GO.read (v := nI (nid (lo s))) hX hM hI ?_ ?_
    · simp only [fX7_lastIdentifier]
      rw [xO hX.1, jr_bd (x_srv hX hs hn), jr_f (by simp), sO hX.1 _ _ _ _ (by omega), jr_bd (x_newest w hX (by omega) (hI.ll s (by omega)))]; rfl
    · simp only [fX8_lastIdentifier]
      rw [mO hX.1, jr_bd (m_srv hX.1 hM hs hn), jr_f (by decide), mO hX.1, jr_bd (m_lastlog hX.1 hM (by omega) (hI.ll s (by omega)))]; rfl
  · refine GO.read (v := -1) hX hM hI ?_ ?_
    · simp only [fX7_lastIdentifier]
      rw [xO hX.1, jr_bd (x_srvn hX hx), jr_t rfl]; rfl
    · simp only [fX8_lastIdentifier]
      rw [mO hX.1, jr_bd (m_srvn hX.1 hM hx hn), jr_t rfl]; rfl
theorem p_applied (x : Int32) (hX : RX c lg z nn lo tr wt) (hM : RM w nn lo tr wt) (hI : INV N nn lo tr wt) : GO (fun a => fX7_appliedCount a x) (fun a => fX8_appliedCount a x) c lg z w N := by
  have hn := hI.1.2.1
  rcases ix_cases x (n := nn 0 4) (by omega) with ⟨s, hs, rfl⟩ | hx
  · have hs5 : s < 5 := by omega
    refine GO.read (v := nI (nn 4 s)) hX hM hI ?_ ?_
    · simp only [fX7_appliedCount]
      rw [xO hX.1, jr_bd (x_srv hX hs hn), jr_f (by simp), sI6 hX.1 _ _ _ _ hs5, hX.2.1 4 s (by simp [dX, hs5])]; rfl
    · simp only [fX8_appliedCount]
      rw [mO hX.1, jr_bd (m_srv hX.1 hM hs hn), jr_f (by decide), mR4 hX.1, mG4 hX.1 _ _ _ _ hs5, (hM.1.2 s hs5).2.2.2]; rfl
  · refine GO.read (v := -1) hX hM hI ?_ ?_
    · simp only [fX7_appliedCount]
      rw [xO hX.1, jr_bd (x_srvn hX hx), jr_t rfl]; rfl
    · simp only [fX8_appliedCount]
      rw [mO hX.1, jr_bd (m_srvn hX.1 hM hx hn), jr_t rfl]; rfl
theorem p_epoch (x : Int32) (hX : RX c lg z nn lo tr wt) (hM : RM w nn lo tr wt) (hI : INV N nn lo tr wt) : GO (fun a => fX7_acceptedEpoch a x) (fun a => fX8_acceptedEpoch a x) c lg z w N := by
  have hn := hI.1.2.1
  rcases ix_cases x (n := nn 0 4) (by omega) with ⟨s, hs, rfl⟩ | hx
  · have hs5 : s < 5 := by omega
    refine GO.read (v := nI (nn 3 s)) hX hM hI ?_ ?_
    · simp only [fX7_acceptedEpoch]
      rw [xO hX.1, jr_bd (x_srv hX hs hn), jr_f (by simp), sI5 hX.1 _ _ _ _ hs5, hX.2.1 3 s (by simp [dX, hs5])]; rfl
    · simp only [fX8_acceptedEpoch]
      rw [mO hX.1, jr_bd (m_srv hX.1 hM hs hn), jr_f (by decide), mR3 hX.1, mG3 hX.1 _ _ _ _ hs5, (hM.1.2 s hs5).2.2.1]; rfl
  · refine GO.read (v := -1) hX hM hI ?_ ?_
    · simp only [fX7_acceptedEpoch]
      rw [xO hX.1, jr_bd (x_srvn hX hx), jr_t rfl]; rfl
    · simp only [fX8_acceptedEpoch]
      rw [mO hX.1, jr_bd (m_srvn hX.1 hM hx hn), jr_t rfl]; rfl
theorem p_nodes (x : Int32) (hX : RX c lg z nn lo tr wt) (hM : RM w nn lo tr wt) (hI : INV N nn lo tr wt) : GO (fun a => fX7_nodeCount a x) (fun a => fX8_nodeCount a x) c lg z w N := by
  have hn := hI.1.2.1
  rcases ix_cases x (n := nn 0 4) (by omega) with ⟨s, hs, rfl⟩ | hx
  · have hs5 : s < 5 := by omega
    obtain ⟨r, r1, r2, -⟩ := hM.2.2.1 s hs5
    refine GO.read (v := nI (tr s).length) hX hM hI ?_ ?_
    · simp only [fX7_nodeCount]
      rw [xO hX.1, jr_bd (x_srv hX hs hn), jr_f (by simp), sR1 hX.1 _ _ _ _ hs5, tO hX.1 _ _ _ _ (by omega), jr_bd (x_size hX.1 (by omega)), (hX.2.2.2 s (by omega)).length_eq]; rfl
    · simp only [fX8_nodeCount]
      rw [mO hX.1, jr_bd (m_srv hX.1 hM hs hn), jr_f (by decide), mR15 hX.1, mG15 hX.1 _ _ _ _ (by omega), r2, r1.length_eq]; rfl
  · refine GO.read (v := -1) hX hM hI ?_ ?_
    · simp only [fX7_nodeCount]
      rw [xO hX.1, jr_bd (x_srvn hX hx), jr_t rfl]; rfl
    · simp only [fX8_nodeCount]
      rw [mO hX.1, jr_bd (m_srvn hX.1 hM hx hn), jr_t rfl]; rfl
theorem p_common (x y : Int32) (hX : RX c lg z nn lo tr wt) (hM : RM w nn lo tr wt) (hI : INV N nn lo tr wt) : GO (fun a => fX7_commonLog a x y) (fun a => fX8_commonLog a x y) c lg z w N := by
  have hn := hI.1.2.1
  rcases ix_cases x (n := nn 0 4) (by omega) with ⟨s, hs, rfl⟩ | hx
  · have hs5 : s < 5 := by omega
    rcases ix_cases y (n := nn 0 4) (by omega) with ⟨g, hg, rfl⟩ | hy
    · have hg5 : g < 5 := by omega
      refine GO.read (v := nI (com (lo s) (lo g))) hX hM hI ?_ ?_
      · simp only [fX7_commonLog]
        rw [xO hX.1, jr_bd (x_srv hX hs hn), xO hX.1, jr_bd (x_srv hX hg hn), jr_f (by simp), jr_f (by simp), sO hX.1 _ _ _ _ hs5, jr_bd (x_common w hX hs5 hg5 (hI.ll s hs5) (hI.ll g hg5))]; rfl
      · simp only [fX8_commonLog]
        rw [mO hX.1, jr_bd (m_srv hX.1 hM hs hn), jr_f (by decide), mO hX.1, jr_bd (m_srv hX.1 hM hg hn), jr_f (by decide), mO hX.1, jr_bd (m_common hX.1 hM hs5 hg5 (hI.ll s hs5) (hI.ll g hg5) hI.ib)]; rfl
    · refine GO.read (v := -1) hX hM hI ?_ ?_
      · simp only [fX7_commonLog]
        rw [xO hX.1, jr_bd (x_srv hX hs hn), xO hX.1, jr_bd (x_srvn hX hy), jr_f (by simp), jr_t rfl]; rfl
      · simp only [fX8_commonLog]
        rw [mO hX.1, jr_bd (m_srv hX.1 hM hs hn), jr_f (by decide), mO hX.1, jr_bd (m_srvn hX.1 hM hy hn), jr_t rfl]; rfl
  · refine GO.read (v := -1) hX hM hI ?_ ?_
    · simp only [fX7_commonLog]
      rcases ix_cases y (n := nn 0 4) (by omega) with ⟨g, hg, rfl⟩ | hy
      · rw [xO hX.1, jr_bd (x_srvn hX hx), xO hX.1, jr_bd (x_srv hX hg hn), jr_t rfl]; rfl
      · rw [xO hX.1, jr_bd (x_srvn hX hx), xO hX.1, jr_bd (x_srvn hX hy), jr_t rfl]; rfl
    · simp only [fX8_commonLog]
      rw [mO hX.1, jr_bd (m_srvn hX.1 hM hx hn), jr_t rfl]; rfl
theorem p_evCount (x : Int32) (hX : RX c lg z nn lo tr wt) (hM : RM w nn lo tr wt) (hI : INV N nn lo tr wt) : GO (fun a => fX7_eventCount a x) (fun a => fX8_eventCount a x) c lg z w N := by
  have hn := hI.1.2.2.1
  rcases ix_cases x (n := nn 0 5) (by omega) with ⟨s, hs, rfl⟩ | hx
  · have hs6 : s < 6 := by omega
    have e23 := hM.2.2.2.2.1.1 s hs6
    rw [if_pos hs] at e23
    refine GO.read (v := nI (nn 10 s)) hX hM hI ?_ ?_
    · simp only [fX7_eventCount]
      rw [xO hX.1, jr_bd (x_ses hX hs hn), jr_f (by simp), eI1 hX.1 _ _ _ _ hs6, hX.2.1 10 s (by simp [dX, hs6])]; rfl
    · simp only [fX8_eventCount]
      rw [mO hX.1, jr_bd (m_ses hX.1 hM hs hn), jr_f (by decide), mR23 hX.1, mG23 hX.1 _ _ _ _ hs6, e23]; rfl
  · refine GO.read (v := -1) hX hM hI ?_ ?_
    · simp only [fX7_eventCount]
      rw [xO hX.1, jr_bd (x_sesn hX hx), jr_t rfl]; rfl
    · simp only [fX8_eventCount]
      rw [mO hX.1, jr_bd (m_sesn hX.1 hM hx hn), jr_t rfl]; rfl
theorem nI_or {x : Int32} (h : 0 ≤ x) : ∃ j : Nat, j < 2 ^ 31 ∧ x = nI j := nI_of (Int32.not_lt.mpr h)
theorem p_evAt (x y : Int32) (hX : RX c lg z nn lo tr wt) (hM : RM w nn lo tr wt) (hI : INV N nn lo tr wt) (hN : N < 1000) : GO (fun a => fX7_eventAt a x y) (fun a => fX8_eventAt a x y) c lg z w N := by
  have hn := hI.1.2.2.1
  rcases ix_cases x (n := nn 0 5) (by omega) with ⟨s, hs, rfl⟩ | hx
  · have hs6 : s < 6 := by omega
    have e23 := hM.2.2.2.2.1.1 s hs6
    rw [if_pos hs] at e23
    have e10 := hX.2.1 10 s (by simp [dX, hs6])
    have hb : nn 10 s < 2000 := by have := hI.2.2.2.1.2.1 s hs6; omega
    by_cases h0 : 0 ≤ y
    · obtain ⟨j, hj, rfl⟩ := nI_or h0
      -- below the eight latest, beyond them, or among them
      have hs8 : ∀ e : Nat, e < 2000 → ((nI e - 8 ≤ nI j) ↔ e ≤ j + 8) := by
        intro e he
        have q1 : (nI e - nI 8).toInt = (e : Int) - (8 : Nat) := pk_sub_toInt (by omega) (by omega)
        show nI e - nI 8 ≤ nI j ↔ _
        rw [Int32.le_iff_toInt_le, q1, nI_toInt hj]
        omega
      by_cases h1 : nn 10 s ≤ j
      · refine GO.read (v := -3) hX hM hI ?_ ?_
        · simp only [fX7_eventAt]
          have e : fX2_readEvent (c.1 10 s) (nI j) (qE c lg z w) = some (-3, qE c lg z w) := by
            unfold fX2_readEvent
            rw [eI1 hX.1 _ _ _ _ hs6, e10, jr_t (nI_le h1 hj)]; rfl
          rw [xO hX.1, jr_bd (x_ses hX hs hn), jr_f (by simp), jr_t h0, eO hX.1 _ _ _ _ hs6, jr_bd e]; rfl
        · simp only [fX8_eventAt]
          rw [mO hX.1, jr_bd (m_ses hX.1 hM hs hn), jr_f (by decide), jr_t h0, mR23 hX.1, mG23 hX.1 _ _ _ _ hs6, e23, jr_t (nI_le h1 hj)]; rfl
      · by_cases h2 : nn 10 s ≤ j + 8
        · have e7 : nI j &&& 7 = nI (j % 8) := pk_andN (by omega) 3 (by decide)
          have hjm : 8 * s + j % 8 < 48 := by omega
          refine GO.read (v := nI (nn 11 (8 * s + j % 8))) hX hM hI ?_ ?_
          · simp only [fX7_eventAt]
            have e : fX2_readEvent (c.1 10 s) (nI j) (qE c lg z w) = some (nI (nn 11 (8 * s + j % 8)), qE c lg z w) := by
              unfold fX2_readEvent
              rw [eI1 hX.1 _ _ _ _ hs6, e10, jr_f (nI_ge (by omega) (by omega)), eI1 hX.1 _ _ _ _ hs6, e10, jr_t ((hs8 _ hb).mpr h2), eR2 hX.1 _ _ _ _ hs6, e7, eA hX.1 _ _ _ _ _ hs6 (by omega), hX.2.1 11 _ (by simp [dX]; omega)]; rfl
            rw [xO hX.1, jr_bd (x_ses hX hs hn), jr_f (by simp), jr_t h0, eO hX.1 _ _ _ _ hs6, jr_bd e]; rfl
          · simp only [fX8_eventAt]
            rw [mO hX.1, jr_bd (m_ses hX.1 hM hs hn), jr_f (by decide), jr_t h0, mR23 hX.1, mG23 hX.1 _ _ _ _ hs6, e23, jr_f (nI_ge (by omega) (by omega)), mR23 hX.1, mG23 hX.1 _ _ _ _ hs6, e23, jr_f (Int32.not_lt.mpr ((hs8 _ hb).mpr h2)), mR24 hX.1, rem8 hj, n8, nI_add, mG24 hX.1 _ _ _ _ hjm, hM.2.2.2.2.1.2 _ hjm]; rfl
        · refine GO.read (v := -3) hX hM hI ?_ ?_
          · simp only [fX7_eventAt]
            have e : fX2_readEvent (c.1 10 s) (nI j) (qE c lg z w) = some (-3, qE c lg z w) := by
              unfold fX2_readEvent
              rw [eI1 hX.1 _ _ _ _ hs6, e10, jr_f (nI_ge (by omega) (by omega)), eI1 hX.1 _ _ _ _ hs6, e10, jr_f (fun q => h2 ((hs8 _ hb).mp q))]; rfl
            rw [xO hX.1, jr_bd (x_ses hX hs hn), jr_f (by simp), jr_t h0, eO hX.1 _ _ _ _ hs6, jr_bd e]; rfl
          · simp only [fX8_eventAt]
            rw [mO hX.1, jr_bd (m_ses hX.1 hM hs hn), jr_f (by decide), jr_t h0, mR23 hX.1, mG23 hX.1 _ _ _ _ hs6, e23, jr_f (nI_ge (by omega) (by omega)), mR23 hX.1, mG23 hX.1 _ _ _ _ hs6, e23, jr_t (Int32.not_le.mp (fun q => h2 ((hs8 _ hb).mp q)))]; rfl
    · refine GO.read (v := -1) hX hM hI ?_ ?_
      · simp only [fX7_eventAt]
        rw [xO hX.1, jr_bd (x_ses hX hs hn), jr_f (by simp), jr_f h0]; rfl
      · simp only [fX8_eventAt]
        rw [mO hX.1, jr_bd (m_ses hX.1 hM hs hn), jr_f (by decide), jr_f h0]; rfl
  · refine GO.read (v := -1) hX hM hI ?_ ?_
    · simp only [fX7_eventAt]
      rw [xO hX.1, jr_bd (x_sesn hX hx), jr_t rfl]; rfl
    · simp only [fX8_eventAt]
      rw [mO hX.1, jr_bd (m_sesn hX.1 hM hx hn), jr_t rfl]; rfl
end IV
