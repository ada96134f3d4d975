/-! ===== heartbeat, new transactions and watches, the end of a leadership ===== -/
section C3
variable {c : CX} {lg : LG} {z w : ZZ} {N : Nat} {nn : NN} {lo : Nat → List TX} {tr : Nat → List ND} {wt : List WT}
theorem fes_len {s x : Nat} : ∀ (l : List Nat) (q : NN × List WT) (k : Nat), (fes s x l q).1 10 k + (fes s x l q).2.length ≤ q.1 10 k + q.2.length := by
  intro l
  induction l with
  | nil => intro q k; exact Nat.le_refl _
  | cons p l ih => exact fun q k => Nat.le_trans (ih _ k) (fe_len q.2 q.1 k)
theorem cy_len {s : Nat} {x : TX} {t : List ND} {q : NN × List WT} {k : Nat} : (cy s x t q).1 10 k + (cy s x t q).2.length ≤ q.1 10 k + q.2.length := fes_len _ _ _
theorem apl_len {s : Nat} {l : List TX} : ∀ n j (q : NN × List WT) (k : Nat), (apl s l n j q).1 10 k + (apl s l n j q).2.length ≤ q.1 10 k + q.2.length := by
  intro n
  induction n with
  | zero => intro j q k; exact Nat.le_refl _
  | succ n ih =>
    intro j q k
    simp only [apl]
    cases l[j]? with
    | none => exact Nat.le_refl _
    | some x =>
      refine Nat.le_trans (ih (j + 1) _ k) ?_
      simp only
      rw [n2_k (show (10 : Nat) ≠ 4 by decide)]
      exact cy_len
theorem pre_take {l m : List TX} {e : Nat} (h : l <+: m) (he : e ≤ l.length) : l.take e = m.take e := by
  obtain ⟨t, rfl⟩ := h
  rw [List.take_append_of_le_length he]
theorem INV.ap {s : Nat} (h : INV N nn lo tr wt) (hN : N < 1000) (hs : s < 5) (h3 : nn 3 s = nn 0 7) : INV N (apl s (lo s) (min (nn 0 9) (lo s).length - nn 4 s) (nn 4 s) (nn, wt)).1 lo (va_up tr s (rp ((lo s).take (min (nn 0 9) (lo s).length)))) (apl s (lo s) (min (nn 0 9) (lo s).length - nn 4 s) (nn 4 s) (nn, wt)).2 := by
  have hcb := CB_apl (s := s) (l := lo s) (min (nn 0 9) (lo s).length - nn 4 s) (nn 4 s) (q := (nn, wt)) (h.CB hN)
  obtain ⟨i1, i2, i3, ⟨i4, i5, i6⟩, i7, ⟨g, g1, g2, g3, g4, g5, g6, g7⟩, i9, i10⟩ := h
  obtain ⟨a1, a2, a3, a4, a5⟩ := i7 s hs
  have hk : ∀ k i, k ≠ 10 → k ≠ 11 → ¬ (k = 4 ∧ i = s) → (apl s (lo s) (min (nn 0 9) (lo s).length - nn 4 s) (nn 4 s) (nn, wt)).1 k i = nn k i := fun k i q1 q2 q3 => apl_k _ _ (nn, wt) k i q1 q2 q3
  have h4 : (apl s (lo s) (min (nn 0 9) (lo s).length - nn 4 s) (nn 4 s) (nn, wt)).1 4 s = min (nn 0 9) (lo s).length := (apl_4 (s := s) (l := lo s) (min (nn 0 9) (lo s).length - nn 4 s) (nn 4 s) (nn, wt) rfl (by omega)).trans (by omega)
  have hl := fun k => apl_len (s := s) (l := lo s) (min (nn 0 9) (lo s).length - nn 4 s) (nn 4 s) (nn, wt) k
  generalize apl s (lo s) (min (nn 0 9) (lo s).length - nn 4 s) (nn 4 s) (nn, wt) = q at hcb hk h4 hl
  have k0 : ∀ i, q.1 0 i = nn 0 i := fun i => hk 0 i (by decide) (by decide) (by simp)
  have k1 : ∀ i, q.1 1 i = nn 1 i := fun i => hk 1 i (by decide) (by decide) (by simp)
  have k2 : ∀ i, q.1 2 i = nn 2 i := fun i => hk 2 i (by decide) (by decide) (by simp)
  have k3 : ∀ i, q.1 3 i = nn 3 i := fun i => hk 3 i (by decide) (by decide) (by simp)
  unfold INV qm
  simp only [k0, k1, k2, k3]
  refine ⟨i1, i2, ?_, ⟨hcb.1, fun k hk6 => Nat.le_trans (hl k) (i5 k hk6), i6⟩, fun i hi => ?_, ⟨g, g1, g2, g3, g4, g5, fun i hi => ?_, g7⟩, i9, i10⟩
  · rw [va_n (by omega)]
    exact i3
  · by_cases e : i = s
    · subst e
      rw [va_s, h4]
      exact ⟨a1, a2, rfl, by omega, by omega⟩
    · rw [va_n e, hk 4 i (by decide) (by decide) (fun q => e q.2)]
      exact i7 i hi
  · by_cases e : i = s
    · subst e
      rw [h4]
      exact pre_take (g5 i hi h3) (by omega)
    · rw [hk 4 i (by decide) (by decide) (fun q => e q.2)]
      exact g6 i hi
theorem x_fol {s : Nat} (hX : RX c lg z nn lo tr wt) (hI : INV N nn lo tr wt) (hs : s < 5) : fX7_isFollower (c.1 0 0) (some (c.1 2 s)) (qE c lg z w) = some (if nn 2 s = 1 ∧ s ≠ nn 0 6 then 1 else 0, qE c lg z w) := by
  have hW := hX.1
  have h2 := (hI.2.1 s hs).2.1
  unfold fX7_isFollower
  rw [sI4 hW _ _ _ _ hs, hX.2.1 2 s (by simp [dX, hs])]
  by_cases q : nn 2 s = 0
  · rw [jr_t (by rw [q]; rfl), if_neg (by omega)]; rfl
  · rw [jr_f (fun e => q ((nI_e0 (by omega)).mp e)), xR6 hW, hX.2.1 0 6 rfl]
    rcases hI.2.2.1 with ⟨l1, l2⟩ | ⟨l1, l2, l3⟩
    · exact absurd (l2 s hs) q
    · rw [chf_s l1]
      by_cases e : s = nn 0 6
      · rw [jr_t ((ad_inj hW hs l1).mpr e), if_neg (fun q => q.2 e)]; rfl
      · rw [jr_f (fun q => e ((ad_inj hW hs l1).mp q)), if_pos ⟨by omega, e⟩]; rfl
theorem m_fol {s : Nat} (hW : qW c lg) (hM : RM w nn lo tr wt) (hI : INV N nn lo tr wt) (hs : s < 5) : fX8_isFollower (c.1 20 0) (nI s) (qE c lg z w) = some (if nn 2 s = 1 ∧ s ≠ nn 0 6 then 1 else 0, qE c lg z w) := by
  have h2 := (hI.2.1 s hs).2.1
  unfold fX8_isFollower
  rw [mR2 hW, mG2 hW _ _ _ _ hs, (hM.1.2 s hs).2.1]
  by_cases q : nn 2 s = 0
  · rw [jr_t (by rw [q]; rfl), if_neg (by omega)]; rfl
  · rw [jr_f (fun e => q ((nI_e0 (by omega)).mp e)), mI5 hW, hM.1.1.2.1]
    rcases hI.2.2.1 with ⟨l1, l2⟩ | ⟨l1, l2, l3⟩
    · exact absurd (l2 s hs) q
    · by_cases e : s = nn 0 6
      · rw [jr_t (by rw [← e]), if_neg (fun q => q.2 e)]; rfl
      · rw [jr_f (fun q => e ((nI_eq (by omega) (by omega)).mp q)), if_pos ⟨by omega, e⟩]; rfl
theorem p_heart (x : Int32) (hX : RX c lg z nn lo tr wt) (hM : RM w nn lo tr wt) (hI : INV N nn lo tr wt) (hN : N < 1000) : GO (fun a => fX7_heartbeat a x) (fun a => fX8_heartbeat a x) c lg z w N := by
  have hW := hX.1
  have hn := hI.1.2.1
  rcases ix_cases x (n := nn 0 4) (by omega) with ⟨s, hs, rfl⟩ | hx
  · have hs5 : s < 5 := by omega
    by_cases hf : nn 2 s = 1 ∧ s ≠ nn 0 6
    · obtain ⟨a1, a2, a3, a4, a5⟩ := hI.2.2.2.2.1 s hs5
      have h3 := ((hI.2.1 s hs5).2.2.2.1 hf.1).2
      have hcm : nn 0 9 < 2 ^ 31 := by
        obtain ⟨g, g1, -, g3, -⟩ := hI.2.2.2.2.2.1
        have := hI.ll g g1
        omega
      obtain ⟨lg1, z1, e1, e2, -⟩ := x_apply w hX hs5 a1 a2 hcm a3 (hI.CB hN) (by omega)
      obtain ⟨w1, f1, f2⟩ := m_go (z := z1) (lg := lg1) e2.1 hM hs5 a1 a2 hcm a3 hI.tl (hI.CB hN) (by omega)
      refine ⟨nI (min (nn 0 9) (lo s).length - nn 4 s), c, lg1, z1, w1, _, lo, _, _, ?_, ?_, e2, f2, (hI.ap hN hs5 h3).succ, KE.rfl.mono (by omega) (by omega)⟩
      · simp only [fX7_heartbeat]
        rw [xO hW, jr_bd (x_srv hX hs hn), jr_f (by simp), xO hW, jr_bd (x_fol hX hI hs5), if_pos hf, jr_f (by decide), xI9 hW, hX.2.1 0 9 rfl, xR2 hW, sO hW _ _ _ _ hs5, jr_bd e1]; rfl
      · simp only [fX8_heartbeat]
        rw [mO e2.1, jr_bd (m_srv e2.1 hM hs hn), jr_f (by decide), mO e2.1, jr_bd (m_fol e2.1 hM hI hs5), if_pos hf, jr_f (by decide), mI8 e2.1, hM.1.1.2.2.2.2.1, mO e2.1, jr_bd f1]; rfl
    · refine GO.read (v := -2) hX hM hI ?_ ?_
      · simp only [fX7_heartbeat]
        rw [xO hW, jr_bd (x_srv hX hs hn), jr_f (by simp), xO hW, jr_bd (x_fol hX hI hs5), if_neg hf, jr_t rfl]; rfl
      · simp only [fX8_heartbeat]
        rw [mO hW, jr_bd (m_srv hW hM hs hn), jr_f (by decide), mO hW, jr_bd (m_fol hW hM hI hs5), if_neg hf, jr_t rfl]; rfl
  · refine GO.read (v := -1) hX hM hI ?_ ?_
    · simp only [fX7_heartbeat]
      rw [xO hW, jr_bd (x_srvn hX hx), jr_t rfl]; rfl
    · simp only [fX8_heartbeat]
      rw [mO hW, jr_bd (m_srvn hW hM hx hn), jr_t rfl]; rfl
/-! new objects -/
theorem raw_p {S : jm_S} {a ci n : Nat} {fs : List jm_V} {v : jm_V} (h : S.1 a = some (.inr (ci, fs))) (hn : n < fs.length) : jm_p (some a) ci n v S = some (va_up S.1 a (some (.inr (ci, fs.set n v))), S.2) := by
  unfold jm_p jm_ob
  simp only [h, if_true, if_pos hn]
/-- the addresses with a new transaction, or a new watch of session k -/
def cT (c : CX) : CX := (c.1, va_up c.2.1 c.2.2.2.2.2.1 (some (8, c.2.2.2.2.2.1)), c.2.2.1, c.2.2.2.1, c.2.2.2.2.1, c.2.2.2.2.2.1 + 1, c.2.2.2.2.2.2.1 + 5, c.2.2.2.2.2.2.2)
def cV (c : CX) (k : Nat) : CX := (c.1, va_up c.2.1 c.2.2.2.2.2.1 (some (13, c.2.2.2.2.2.1)), c.2.2.1, va_up c.2.2.2.1 c.2.2.2.2.2.1 k, c.2.2.2.2.1, c.2.2.2.2.2.1 + 1, c.2.2.2.2.2.2.1 + 3, c.2.2.2.2.2.2.2)
/-- and with a thing not yet filled in -/
def cU (c : CX) (e : jm_E) (n : Nat) : CX := (c.1, va_up c.2.1 c.2.2.2.2.2.1 (some (99, c.2.2.2.2.2.1)), c.2.2.1, c.2.2.2.1, va_up c.2.2.2.2.1 c.2.2.2.2.2.1 e, c.2.2.2.2.2.1 + 1, c.2.2.2.2.2.2.1 + n, c.2.2.2.2.2.2.2)
theorem cW_new {c' : CX} {k : Nat} (hW : qW c lg) (hk : k = 8 ∨ k = 13 ∨ k = 99) (h1 : c'.1 = c.1) (h2 : c'.2.1 = va_up c.2.1 c.2.2.2.2.2.1 (some (k, c.2.2.2.2.2.1))) (h3 : c'.2.2.1 = c.2.2.1) (h4 : c'.2.2.2.2.2.1 = c.2.2.2.2.2.1 + 1) (h5 : c'.2.2.2.2.2.2.2 = c.2.2.2.2.2.2.2) : qW c' lg := by
  obtain ⟨a1, a2, a3, a4, a5, a6, a7⟩ := hW
  have ht : ∀ a q, c.2.1 a = some q → c'.2.1 a = some q := by
    intro a q hq
    have := (a1 a q hq).1
    rw [h2]
    simp only [va_up, if_neg (show a ≠ c.2.2.2.2.2.1 by omega)]
    exact hq
  refine ⟨fun a q hq => ?_, fun a => by rw [h1]; exact a2 a, fun k i hx => by rw [h1]; exact ht _ _ (a3 k i hx), fun i hi => ?_, by rw [h1, h5]; exact a5, fun i j a hi hj => ht _ _ (a6 i j a hi hj), fun j a hj => ht _ _ (a7 j a hj)⟩
  · rw [h2] at hq
    by_cases e : a = c.2.2.2.2.2.1
    · subst e
      simp only [va_up, if_true, Option.some.injEq] at hq
      subst hq
      rw [h1, h4]
      refine ⟨by omega, ?_, ?_⟩
      · have := a2 c.2.2.2.2.2.1
        rcases hk with q | q | q <;> subst q
        · exact this.1
        · exact this.2.1
        · exact this.2.2
      · rcases hk with q | q | q <;> subst q <;> simp [qk]
    · simp only [va_up, if_neg e] at hq
      rw [h1, h4]
      obtain ⟨b1, b2, b3⟩ := a1 a q hq
      exact ⟨by omega, b2, b3⟩
  · rw [h1, h3, h5]
    rcases a4 i hi with q | ⟨q1, q2⟩
    · exact Or.inl q
    · exact Or.inr ⟨q1, ht _ _ q2⟩
theorem AL_lt {AL : Nat → List Nat} {i a : Nat} (hW : qW c lg) (hL : LI c lg z i (AL i)) (hi : i < 6) (ha : a ∈ AL i) : a < c.2.2.2.2.2.1 := by
  obtain ⟨j, hj⟩ := List.getElem?_of_mem ha
  rw [← hL.2.1] at hj
  by_cases h5 : i < 5
  · exact (hW.1 _ _ (hW.2.2.2.2.2.1 i j a h5 hj)).1
  · have e : i = 5 := by omega
    subst e
    exact (hW.1 _ _ (hW.2.2.2.2.2.2 j a hj)).1
theorem RX.newtx {x1 x2 x3 x4 x5 : Nat} (w : ZZ) (h : RX c lg z nn lo tr wt) (b1 : x1 < 2 ^ 32) (b2 : x2 < 2 ^ 32) (b3 : x3 < 2 ^ 32) (b4 : x4 < 2 ^ 32) (b5 : x5 < 2 ^ 32) : ∃ S1 z', jm_new 4 [.inl 0, .inl 0, .inl 0, .inl 0, .inl 0] (qE c lg z w) = some (c.2.2.2.2.2.1, S1) ∧ fX3_init c.2.2.2.2.2.1 (nI x1) (nI x2) (nI x3) (nI x4) (nI x5) S1 = some ((), qE (cT c) lg z' w) ∧ RX (cT c) lg z' nn lo tr wt ∧ (cT c).2.1 c.2.2.2.2.2.1 = some (8, c.2.2.2.2.2.1) ∧ txof z' c.2.2.2.2.2.1 = (x1, x2, x3, x4, x5) ∧ KE c (cT c) 1 5 := by
  have hW := h.1
  obtain ⟨-, h2, ⟨AL, a1, a2, a3⟩, h4⟩ := h
  let a := c.2.2.2.2.2.1
  let z' : ZZ := u2 (u2 (u2 (u2 (u2 z 12 a (nI x1)) 13 a (nI x2)) 14 a (nI x3)) 15 a (nI x4)) 16 a (nI x5)
  have hW' : qW (cT c) lg := cW_new hW (Or.inl rfl) rfl rfl rfl rfl rfl
  have hzk : ∀ f, ¬ (12 ≤ f ∧ f ≤ 16) → z' f = z f := fun f hf => by
    show u2 (u2 (u2 (u2 (u2 z 12 a _) 13 a _) 14 a _) 15 a _) 16 a _ f = z f
    rw [u2_k (by omega), u2_k (by omega), u2_k (by omega), u2_k (by omega), u2_k (by omega)]
  have hzi : ∀ f i, i ≠ a → z' f i = z f i := fun f i hi => by
    show u2 (u2 (u2 (u2 (u2 z 12 a _) 13 a _) 14 a _) 15 a _) 16 a _ f i = z f i
    have e : ∀ (z : ZZ) (k : Nat) (v : Int32), u2 z k a v f i = z f i := fun z k v => by unfold u2; rw [if_neg (fun q => hi q.2)]
    rw [e, e, e, e, e]
  refine ⟨_, z', rfl, ?_, ⟨hW', fun k i hd => ?_, ⟨AL, fun i hi => (a1 i hi).keep (by rw [hzk 20 (by omega)]) rfl rfl, fun i hi => ?_, ?_⟩, fun i hi => by rw [slots_k (fun f q1 q2 => hzk f (by omega))]; exact h4 i hi⟩, ?_, ?_, ⟨fun _ _ _ => rfl, fun b hb => ?_, Nat.le_refl _, Nat.le_refl _⟩⟩
  · have e : ∀ (S : jm_S) (f0 f1 f2 f3 f4 : jm_V), fX3_init a (nI x1) (nI x2) (nI x3) (nI x4) (nI x5) (va_up S.1 a (some (.inr (4, [f0, f1, f2, f3, f4]))), S.2) = some ((), (va_up S.1 a (some (.inr (4, [.inl (nI x1), .inl (nI x2), .inl (nI x3), .inl (nI x4), .inl (nI x5)]))), S.2)) := by
      intro S f0 f1 f2 f3 f4
      unfold fX3_init
      rw [jr_rd (show jm_nn (some a) _ = some () from rfl)]
      have hs : ∀ (M : jm_M) (e : jm_E), va_up M a (some e) a = some e := fun M e => by simp [va_up]
      rw [jr_wr (raw_p (hs _ _) (by simp)), jr_wr (raw_p (hs _ _) (by simp)), jr_wr (raw_p (hs _ _) (by simp)), jr_wr (raw_p (hs _ _) (by simp)), jr_wr (raw_p (hs _ _) (by simp))]
      simp only [va_va]
      rfl
    refine (e ((qE c lg z w).1, c.2.2.2.2.2.1 + 1, c.2.2.2.2.2.2.1 + 5, c.2.2.2.2.2.2.2) _ _ _ _ _).trans ?_
    have e2 := qE_new (c := c) (c' := cT c) (lg := lg) (lg' := lg) (z := z) (z' := z') (w := w) (w' := w) (k := 8) (i := a) (n := 5) (e := .inr (4, [.inl (nI x1), .inl (nI x2), .inl (nI x3), .inl (nI x4), .inl (nI x5)])) hW rfl rfl (by
        show cel (cT c) lg (u2 (u2 (u2 (u2 (u2 z 12 a (nI x1)) 13 a (nI x2)) 14 a (nI x3)) 15 a (nI x4)) 16 a (nI x5)) w 8 a = _
        simp [cel, u2]) (fun b k' i' hb => by
        have hb1 := hW.1 b _ hb
        have hcel : cel (cT c) lg z' w k' i' = cel c lg z' w k' i' := rfl
        rw [hcel]
        by_cases h8 : k' = 8
        · subst h8
          have : i' ≠ a := by
            have := (hW.2.1 i').1
            have hb2 := hb1.2.1
            simp only at hb2
            show i' ≠ c.2.2.2.2.2.1
            omega
          simp only [cel, hzi _ i' this]
        · show cel c lg (u2 (u2 (u2 (u2 (u2 z 12 a _) 13 a _) 14 a _) 15 a _) 16 a _) w k' i' = _
          rw [cel_z 8 (by decide) (fun q => h8 q.1), cel_z 8 (by decide) (fun q => h8 q.1), cel_z 8 (by decide) (fun q => h8 q.1), cel_z 8 (by decide) (fun q => h8 q.1), cel_z 8 (by decide) (fun q => h8 q.1)])
    exact congrArg (fun S => some ((), S)) e2
  · have := dX_k hd
    rw [hzk k (by omega)]
    exact h2 k i hd
  · rw [← a2 i hi]
    apply List.map_congr_left
    intro b hb
    have : b ≠ a := by have := AL_lt hW (a1 i (by omega)) (by omega) hb; show b ≠ c.2.2.2.2.2.1; omega
    simp only [txof, hzi _ b this]
  · rw [← a3]
    apply List.map_congr_left
    intro b hb
    simp only [wtof, hzk 17 (by omega), hzk 19 (by omega)]
    rfl
  · show va_up c.2.1 c.2.2.2.2.2.1 _ c.2.2.2.2.2.1 = _
    rw [va_s]
  · show txof (u2 (u2 (u2 (u2 (u2 z 12 a (nI x1)) 13 a (nI x2)) 14 a (nI x3)) 15 a (nI x4)) 16 a (nI x5)) a = _
    simp only [txof, u2_k (show (12 : Nat) ≠ 16 by decide), u2_k (show (12 : Nat) ≠ 15 by decide), u2_k (show (12 : Nat) ≠ 14 by decide), u2_k (show (12 : Nat) ≠ 13 by decide), u2_k (show (13 : Nat) ≠ 16 by decide), u2_k (show (13 : Nat) ≠ 15 by decide), u2_k (show (13 : Nat) ≠ 14 by decide), u2_k (show (14 : Nat) ≠ 16 by decide), u2_k (show (14 : Nat) ≠ 15 by decide), u2_k (show (15 : Nat) ≠ 16 by decide), u2_s, un_nI b1, un_nI b2, un_nI b3, un_nI b4, un_nI b5]
  · have := (hW.1 b _ hb).1
    show va_up c.2.1 c.2.2.2.2.2.1 _ b = _
    rw [va_n (by omega)]
    exact hb
end C3
