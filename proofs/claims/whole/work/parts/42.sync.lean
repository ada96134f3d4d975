/-! ===== accept, synchronize ===== -/
section SY
variable {c : CX} {lg : LG} {z w : ZZ} {N : Nat} {nn : NN} {lo : Nat → List TX} {tr : Nat → List ND} {wt : List WT}
theorem INV_z2 (hI : INV N nn lo tr wt) : ∀ i, i < 5 → nn 0 4 ≤ i → nn 2 i = 0 := fun i hi q => by
  obtain ⟨b1, b2, b3, b4, b5⟩ := hI.2.1 i hi
  by_cases e : nn 2 i = 1
  · have := (b4 e).1; have := b3 q; omega
  · omega
/-- both sides commit, and the leader applies -/
theorem commit_both {g : Nat} (w0 : ZZ) (hX : RX c lg z nn lo tr wt) (hI : INV N nn lo tr wt) (hN : N < 900) (hg : nn 0 6 = g) (hg5 : g < 5) : ∃ lg' z' nn' tr' wt', fX7_commitWhatAQuorumHas (c.1 0 0) (some (c.1 2 g)) (qE c lg z w0) = some ((), qE c lg' z' w0) ∧ RX c lg' z' nn' lo tr' wt' ∧ INV N nn' lo tr' wt' ∧ (∀ i, i ≠ 9 → nn' 0 i = nn 0 i) ∧ (∀ k i, k = 1 ∨ k = 2 ∨ k = 3 → nn' k i = nn k i) ∧ (∀ f, 12 ≤ f → f ≤ 16 → z' f = z f) ∧ ∀ (w : ZZ) (c2 : CX) (lg2 : LG) (z2 : ZZ), qW c2 lg2 → RM w nn lo tr wt → ∃ w', fX8_commits (c2.1 20 0) (qE c2 lg2 z2 w) = some ((), qE c2 lg2 z2 w') ∧ RM w' nn' lo tr' wt' := by
  have hn := hI.1.2.1
  have hb : ∀ i, i < 5 → nn 2 i ≤ 1 := fun i hi => (hI.2.1 i hi).2.1
  have hll := hI.ll
  have hgl := hll g hg5
  have hact : nn 2 g = 1 := by
    rcases hI.2.2.1 with q | ⟨q1, q2, q3⟩
    · have := q.1; omega
    · rw [hg] at q2; exact q2
  obtain ⟨g', g1, g2, g3, g4, g5, g6, g7⟩ := hI.2.2.2.2.2.1
  have hgg : g' = g := by rw [← hg]; exact (g2 (by omega)).symm
  subst hgg
  have hmax : ∀ i, i < 5 → nn 2 i ≠ 0 → (lo i).length ≤ (lo g').length := fun i hi q => (g5 i hi ((hI.2.1 i hi).2.2.2.1 (by have := hb i hi; omega)).2).length_le
  obtain ⟨z1, e1, e2, e9⟩ := x_commit (w := w0) hX hg5 hn hb hll g3
  obtain ⟨s1, s2, s3⟩ := cmf_spec (f := cq nn lo) (q := qm nn) ((lo g').length - nn 0 9) (nn 0 9)
  have hI1 := hI.com (v := cmf (cq nn lo) (qm nn) ((lo g').length - nn 0 9) (nn 0 9)) hg hg5 s1 (by omega) s3
  have hm : ∀ (w : ZZ) (c2 : CX) (lg2 : LG) (z2 : ZZ), qW c2 lg2 → RM w nn lo tr wt → ∃ w', fX8_commits (c2.1 20 0) (qE c2 lg2 z2 w) = (jm_rd (jm_gI (some (c2.1 20 0)) 9 5) fun v2 => jm_rd (jm_gI (some (c2.1 20 0)) 9 8) fun v3 => jm_rd (jm_o (some (c2.1 20 0)) 9) fun a4 => jm_bd (fX8_goesOn a4 v2 v3) fun v4 => jm_ret ()) (qE c2 lg2 z2 w') ∧ RM w' (n2 nn 0 9 (cmf (cq nn lo) (qm nn) ((lo g').length - nn 0 9) (nn 0 9))) lo tr wt := fun w c2 lg2 z2 hW2 hM => m_com (z := z2) hW2 hg5 hg hn hb (INV_z2 hI) hll hmax ((lo g').length - nn 0 9) (nn 0 9) w (by rw [n2_self]; exact hM) (by omega) 4096 (by omega)
  generalize hv : cmf (cq nn lo) (qm nn) ((lo g').length - nn 0 9) (nn 0 9) = v at *
  have k09 : n2 nn 0 9 v 0 9 = v := n2_s _ _ _ _
  obtain ⟨a1, a2, a3, a4, a5⟩ := hI1.2.2.2.2.1 g' hg5
  have hcnt : n2 nn 0 9 v 0 9 < 2 ^ 31 := by rw [k09]; omega
  have h3 : n2 nn 0 9 v 3 g' = n2 nn 0 9 v 0 7 := ((hI1.2.1 g' hg5).2.2.2.1 (by rw [n2_k (by decide)]; exact hact)).2
  obtain ⟨lg2, z2, f1, f2, f9⟩ := x_apply w0 e2 hg5 a1 a2 hcnt a3 (hI1.CB (by omega)) (by omega)
  have hI2 := hI1.ap (by omega) hg5 h3
  refine ⟨lg2, z2, _, _, _, ?_, f2, hI2, fun i hi => ?_, fun k i hk => ?_, fun f g1 g2 => (f9 f g1 g2).trans (e9 f g1 g2), fun w c2 lg2 z2 hW2 hM => ?_⟩
  · rw [e1, xI9 e2.1, e2.2.1 0 9 rfl, xR2 e2.1, sO e2.1 _ _ _ _ hg5, jr_bd f1]; rfl
  · rw [apl_k _ _ _ 0 i (by decide) (by decide) (by simp)]
    exact n2_i hi
  · rw [apl_k _ _ _ k i (by omega) (by omega) (by omega)]
    show n2 nn 0 9 v k i = nn k i
    rw [n2_k (show k ≠ 0 by omega)]
  · obtain ⟨w1, h1, h2⟩ := hm w c2 lg2 z2 hW2 hM
    obtain ⟨w2, j1, j2⟩ := m_go (z := z2) hW2 h2 hg5 a1 a2 hcnt a3 hI1.tl (hI1.CB (by omega)) (by omega)
    refine ⟨w2, ?_, j2⟩
    have e5 : w1 5 0 = nI g' := by rw [h2.1.1.2.1, n2_i (by decide), hg]
    rw [h1, mI5 hW2, e5, mI8 hW2, h2.1.1.2.2.2.2.1, mO hW2, jr_bd j1]; rfl
theorem pre_next {l m : List TX} (h : l <+: m) (hl : l.length < m.length) : l ++ [m[l.length]] <+: m := by
  obtain ⟨t, rfl⟩ := h
  cases t with
  | nil => simp at hl
  | cons a t =>
    have e : (l ++ a :: t)[l.length]'hl = a := by simp
    rw [e]
    exact ⟨t, by simp⟩
theorem p_accept (x : Int32) (hX : RX c lg z nn lo tr wt) (hM : RM w nn lo tr wt) (hI : INV N nn lo tr wt) (hN : N < 600) : GO (fun a => fX7_accept a x) (fun a => fX8_accept a x) c lg z w N := by
  have hW := hX.1
  have hn := hI.1.2.1
  rcases ix_cases x (n := nn 0 4) (by omega) with ⟨s, hs, rfl⟩ | hx
  · have hs5 : s < 5 := by omega
    by_cases hf : nn 2 s = 1 ∧ s ≠ nn 0 6
    · rcases hI.2.2.1 with ⟨l1, l2⟩ | ⟨hg, l2, h5⟩
      · have := l2 s hs5; omega
      · obtain ⟨g', g1, g2, g3, g4, g5, g6, g7⟩ := hI.2.2.2.2.2.1
        have hgg := g2 hg
        have h3 := ((hI.2.1 s hs5).2.2.2.1 hf.1)
        have hpre := g5 s hs5 h3.2
        rw [← hgg] at hpre
        have hgl := hI.ll _ hg
        have hle := hpre.length_le
        by_cases heq : (lo s).length = (lo (nn 0 6)).length
        · refine GO.read (v := -2) hX hM hI ?_ ?_
          · simp only [fX7_accept]
            rw [xO hW, jr_bd (x_srv hX hs hn), jr_f (by simp), xR6 hW, hX.2.1 0 6 rfl, chf_s hg, jr_f (by simp), xO hW, jr_bd (x_fol hX hI hs5), if_pos hf, jr_f (by decide), sR2 hW _ _ _ _ hs5, lO hW _ _ _ _ (by omega), lS hW _ _ _ _ (by omega), hX.len.2 s hs5, xR6 hW, hX.2.1 0 6 rfl, chf_s hg, sR2 hW _ _ _ _ hg, lO hW _ _ _ _ (by omega), lS hW _ _ _ _ (by omega), hX.len.2 _ hg, jr_f (nI_nlt (by omega) (by omega))]; rfl
          · simp only [fX8_accept]
            rw [mO hW, jr_bd (m_srv hW hM hs hn), jr_f (by decide), mO hW, jr_bd (m_fol hW hM hI hs5), if_pos hf, jr_f (by decide), mR9 hW, mG9 hW _ _ _ _ hs5, (hM.2.1 s hs5).1, mR9 hW, mI5 hW, hM.1.1.2.1, mG9 hW _ _ _ _ hg, (hM.2.1 _ hg).1, jr_t (by rw [heq])]; rfl
        · have hlt : (lo s).length < (lo (nn 0 6)).length := by omega
          obtain ⟨a, b1, b2, b3⟩ := hX.xa hg (List.getElem?_eq_getElem hlt)
          obtain ⟨c1, lg1, z1, e1, e2, e3, e9⟩ := hX.ladd w hs5 b2 b3 (by omega)
          have hI1 := hI.cp (s := s) (l := lo s ++ [(lo (nn 0 6))[(lo s).length]]) rfl hg hs hf.2 h3.1 (pre_next hpre hlt) (by have := (hI.2.2.2.2.1 s hs5).2.2.2.1; rw [List.length_append]; omega) (fun _ => by rw [List.length_append]; omega)
          have en : n2 (n2 nn 2 s 1) 3 s (nn 0 7) = nn := by
            have q1 : n2 nn 2 s 1 = nn := by rw [← hf.1, n2_self]
            rw [q1, ← h3.2, n2_self]
          rw [en] at hI1
          obtain ⟨lg2, z2, nn', tr', wt', f1, f2, f3, f4, f5, f6, f7⟩ := commit_both w e2 hI1 (by omega) rfl hg
          have t1 : c1.2.1 a = some (8, a) := e3.2.1 a b2
          have x9 : z2 12 a = nI ((lo (nn 0 6))[(lo s).length]).1 := by rw [f6 12 (by omega) (by omega), e9 12 (by omega) (by omega)]; exact (txof_e b3).1
          have hc0 := e3.1 0 0 (by decide)
          have hc2 := e3.1 2 (nn 0 6) (by decide)
          -- the reference
          have e5 : w 5 0 = nI (nn 0 6) := hM.1.1.2.1
          have e9s := (hM.2.1 s hs5).1
          obtain ⟨x0, x1, x2, x3, x4⟩ := (hM.2.1 _ hg).2 _ _ (List.getElem?_eq_getElem hlt)
          have hW1 := f2.1
          have ht : fX8_takes (c1.1 20 0) (nI s) (nI (lo s).length) (qE c1 lg2 z2 w) = some ((), qE c1 lg2 z2 (u2 (u2 (u2 (u2 (u2 (u2 w 10 (40 * s + (lo s).length) (nI (lo (nn 0 6))[(lo s).length].1)) 11 (40 * s + (lo s).length) (nI (lo (nn 0 6))[(lo s).length].2.1)) 12 (40 * s + (lo s).length) (nI (p7 (lo (nn 0 6))[(lo s).length].2.2.1))) 13 (40 * s + (lo s).length) (nI (lo (nn 0 6))[(lo s).length].2.2.2.1)) 14 (40 * s + (lo s).length) (nI (lo (nn 0 6))[(lo s).length].2.2.2.2)) 9 s (nI ((lo s).length + 1)))) := by
            have hW := hW1
            unfold fX8_takes
            simp (disch := omega) only [↓mI5 hW, ↓mP5 hW, ↓mR9 hW, ↓mG9 hW, ↓mS9 hW, ↓mR10 hW, ↓mG10 hW, ↓mS10 hW, ↓mR11 hW, ↓mG11 hW, ↓mS11 hW, ↓mR12 hW, ↓mG12 hW, ↓mS12 hW, ↓mR13 hW, ↓mG13 hW, ↓mS13 hW, ↓mR14 hW, ↓mG14 hW, ↓mS14 hW, ↓mO hW, ↓jZ0, ↓jZ1, ↓jRt, nI_add, nI_1, n7, n8, n10, n12, n40, e5, e9s, u2_k, x0, x1, x2, x3, x4]
          have hMp := hM.put (x := (lo (nn 0 6))[(lo s).length]) hs5 hI.ll (by omega)
          obtain ⟨w2, j1, j2⟩ := f7 _ c1 lg2 z2 hW1 hMp
          have hll' := f3.ll s hs5
          have hlast := m_lastlog (z := z2) hW1 j2 hs5 hll'
          have hnid : nid (va_up lo s (lo s ++ [(lo (nn 0 6))[(lo s).length]]) s) = ((lo (nn 0 6))[(lo s).length]).1 := by
            rw [va_s]
            simp [nid]
          rw [hnid] at hlast
          refine ⟨nI ((lo (nn 0 6))[(lo s).length]).1, c1, lg2, z2, w2, nn', _, tr', wt', ?_, ?_, f2, j2, f3.succ, e3.mono (by omega) (by omega)⟩
          · simp only [fX7_accept]
            rw [xO hW, jr_bd (x_srv hX hs hn), jr_f (by simp), xR6 hW, hX.2.1 0 6 rfl, chf_s hg, jr_f (by simp), xO hW, jr_bd (x_fol hX hI hs5), if_pos hf, jr_f (by decide), sR2 hW _ _ _ _ hs5, lO hW _ _ _ _ (by omega), lS hW _ _ _ _ (by omega), hX.len.2 s hs5, xR6 hW, hX.2.1 0 6 rfl, chf_s hg, sR2 hW _ _ _ _ hg, lO hW _ _ _ _ (by omega), lS hW _ _ _ _ (by omega), hX.len.2 _ hg, jr_t (nI_lt hlt (by omega)), xR6 hW, hX.2.1 0 6 rfl, chf_s hg, sR2 hW _ _ _ _ hg, lO hW _ _ _ _ (by omega), jr_bd (b1 w), xTc _ _ _ _ b2, sR2 hW _ _ _ _ hs5, lO hW _ _ _ _ (by omega), jr_bd e1]
            rw [← hc0, xR6 e2.1, e2.2.1 0 6 rfl, chf_s hg, xO e2.1, jr_bd f1, xT0 _ _ _ _ t1, x9]; rfl
          · simp only [fX8_accept]
            rw [mO hW1, jr_bd (m_srv hW1 hM hs hn), jr_f (by decide), mO hW1, jr_bd (m_fol hW1 hM hI hs5), if_pos hf, jr_f (by decide), mR9 hW1, mG9 hW1 _ _ _ _ hs5, e9s, mR9 hW1, mI5 hW1, e5, mG9 hW1 _ _ _ _ hg, (hM.2.1 _ hg).1, jr_f (fun q => heq ((nI_eq (by omega) (by omega)).mp q)), mR9 hW1, mG9 hW1 _ _ _ _ hs5, e9s, mO hW1, jr_bd ht, mO hW1, jr_bd j1, mO hW1, jr_bd hlast]; rfl
    · refine GO.read (v := -2) hX hM hI ?_ ?_
      · simp only [fX7_accept]
        rw [xO hW, jr_bd (x_srv hX hs hn), jr_f (by simp), xR6 hW, hX.2.1 0 6 rfl]
        rcases hI.2.2.1 with ⟨l1, l2⟩ | ⟨hg, l2, h5⟩
        · rw [l1, chf_n, jr_t rfl]; rfl
        · rw [chf_s hg, jr_f (by simp), xO hW, jr_bd (x_fol hX hI hs5), if_neg hf, jr_t rfl]; rfl
      · simp only [fX8_accept]
        rw [mO hW, jr_bd (m_srv hW hM hs hn), jr_f (by decide), mO hW, jr_bd (m_fol hW hM hI hs5), if_neg hf, jr_t rfl]; rfl
  · refine GO.read (v := -1) hX hM hI ?_ ?_
    · simp only [fX7_accept]
      rw [xO hW, jr_bd (x_srvn hX hx), jr_t rfl]; rfl
    · simp only [fX8_accept]
      rw [mO hW, jr_bd (m_srvn hW hM hx hn), jr_t rfl]; rfl
theorem copy_all (hI : INV N nn lo tr wt) {s g : Nat} (hs : s < 5) (hg : g < 5) : (lo s).take (com (lo s) (lo g)) ++ (lo g).drop (com (lo s) (lo g)) = lo g := by
  rw [com_take (fun x y hx hy e => hI.2.2.2.2.2.2.2 s g x y hs hg hx hy e), List.take_append_drop]
theorem p_sync (x : Int32) (hX : RX c lg z nn lo tr wt) (hM : RM w nn lo tr wt) (hI : INV N nn lo tr wt) (hN : N < 600) : GO (fun a => fX7_synchronize a x) (fun a => fX8_synchronize a x) c lg z w N := by
  have hW := hX.1
  have hn := hI.1.2.1
  rcases ix_cases x (n := nn 0 4) (by omega) with ⟨s, hs, rfl⟩ | hx
  · have hs5 : s < 5 := by omega
    obtain ⟨u1, u2', u3, u4, u5⟩ := hI.2.1 s hs5
    rcases hI.2.2.1 with ⟨l1, l2⟩ | ⟨hg, l2, h5⟩
    · refine GO.read (v := -2) hX hM hI ?_ ?_
      · simp only [fX7_synchronize]
        rw [xO hW, jr_bd (x_srv hX hs hn), jr_f (by simp), xR6 hW, hX.2.1 0 6 rfl, l1, chf_n, jr_t rfl]; rfl
      · simp only [fX8_synchronize]
        rw [mO hW, jr_bd (m_srv hW hM hs hn), jr_f (by decide), mI5 hW, hM.1.1.2.1, l1, ← m8_, jr_t rfl]; rfl
    · by_cases hup : nn 1 s = 0
      · refine GO.read (v := -2) hX hM hI ?_ ?_
        · simp only [fX7_synchronize]
          rw [xO hW, jr_bd (x_srv hX hs hn), jr_f (by simp), xR6 hW, hX.2.1 0 6 rfl, chf_s hg, jr_f (by simp), sI3 hW _ _ _ _ hs5, hX.2.1 1 s (by simp [dX, hs5]), jr_t (by rw [hup]; rfl)]; rfl
        · simp only [fX8_synchronize]
          rw [mO hW, jr_bd (m_srv hW hM hs hn), jr_f (by decide), mI5 hW, hM.1.1.2.1, jr_f (ldn hg), mR1 hW, mG1 hW _ _ _ _ hs5, (hM.1.2 s hs5).1 hs, jr_t (by rw [hup]; rfl)]; rfl
      · have hup1 : nn 1 s = 1 := by omega
        have hupx : ¬ nI (nn 1 s) = 0 := fun e => hup ((nI_e0 (by omega)).mp e)
        by_cases hac : nn 2 s = 0
        · have hsg : s ≠ nn 0 6 := fun q => by rw [q] at hac; omega
          obtain ⟨g', g1, g2, g3, g4, g5, g6, g7⟩ := hI.2.2.2.2.2.1
          have hgg := g2 hg
          have hgl := hI.ll _ hg
          have hsl := hI.ll s hs5
          have hcopy := copy_all hI hs5 hg
          obtain ⟨c1, lg1, z1, e1, e2, e3⟩ := x_copy w hX hs5 hg hsl hgl
          rw [hcopy] at e2
          have hX2 := (e2.n (k := 2) (i := s) (v := 1) (by simp [dX, hs5])).n (k := 3) (i := s) (v := nn 0 7) (by simp [dX, hs5])
          obtain ⟨a1, a2, a3, a4, a5⟩ := hI.2.2.2.2.1 s hs5
          have hI2 := hI.cp (s := s) (l := lo (nn 0 6)) rfl hg hs hsg hup1 (List.prefix_refl _) (by rw [hgg]; omega) (fun q => by rw [hgg]; exact (g5 s hs5 q).length_le)
          have k06 : n2 (n2 nn 2 s 1) 3 s (nn 0 7) 0 6 = nn 0 6 := by rw [n2_k (by decide), n2_k (by decide)]
          obtain ⟨lg2, z2, nn', tr', wt', f1, f2, f3, f4, f5, f6, f7⟩ := commit_both w hX2 hI2 (by omega) k06 hg
          obtain ⟨b1, b2, b3, b4, b5⟩ := f3.2.2.2.2.1 s hs5
          have h3' : nn' 3 s = nn' 0 7 := by rw [f5 3 s (by omega), f4 7 (by decide), n2_s, n2_k (by decide), n2_k (by decide)]
          have hcm' : nn' 0 9 < 2 ^ 31 := by
            obtain ⟨g'', q1, -, q3, -⟩ := f3.2.2.2.2.2.1
            have := f3.ll g'' q1
            omega
          obtain ⟨lg3, z3, j1, j2, -⟩ := x_apply w f2 hs5 b1 b2 hcm' b3 (f3.CB (by omega)) (by omega)
          have hI4 := f3.ap (by omega) hs5 h3'
          have hc0 := e3.1 0 0 (by decide)
          have hc2 := e3.1 2 s (by decide)
          have hc2g := e3.1 2 (nn 0 6) (by decide)
          have hW3 := j2.1
          -- the reference
          obtain ⟨w1, m1, m2⟩ := m_becomes (z := z3) (lg := lg3) hW3 hM hs5 hg hsg rfl hI.ll hI.ib
          rw [hcopy] at m2
          have hM2 := m2.sv (k := 3) (i := s) (v := nn 0 7) (by omega) (by omega)
          obtain ⟨w2, m3, m4⟩ := f7 _ c1 lg3 z3 hW3 hM2
          obtain ⟨w3, m5, m6⟩ := m_go (z := z3) hW3 m4 hs5 b1 b2 hcm' b3 f3.tl (f3.CB (by omega)) (by omega)
          refine ⟨nI (100 * ((lo s).length - com (lo s) (lo (nn 0 6))) + ((lo (nn 0 6)).length - com (lo s) (lo (nn 0 6)))), c1, lg3, z3, w3, _, _, _, _, ?_, ?_, j2, m6, hI4.succ, e3.mono (by omega) (by omega)⟩
          · simp only [fX7_synchronize]
            rw [xO hW, jr_bd (x_srv hX hs hn), jr_f (by simp), xR6 hW, hX.2.1 0 6 rfl, chf_s hg, jr_f (by simp), sI3 hW _ _ _ _ hs5, hX.2.1 1 s (by simp [dX, hs5]), jr_f hupx, sI4 hW _ _ _ _ hs5, hX.2.1 2 s (by simp [dX, hs5]), jr_t (by rw [hac]; rfl), xR6 hW, hX.2.1 0 6 rfl, chf_s hg, sO hW _ _ _ _ hs5, jr_bd e1, jZ1]
            rw [← hc0, ← hc2, sP4 e2.1 _ _ _ _ _ hs5, xI7 e2.1, u2_k (by decide), e2.2.1 0 7 rfl, sP5 e2.1 _ _ _ _ _ hs5]
            rw [xR6 hX2.1]
            have ec : chf c1 (u2 (u2 z1 2 s 1) 3 s (nI (nn 0 7)) 0 6) = some (c1.1 2 (nn 0 6)) := by
              rw [u2_k (by decide), u2_k (by decide), e2.2.1 0 6 rfl, chf_s hg]
            rw [ec, xO hX2.1, jr_bd (show fX7_commitWhatAQuorumHas (c1.1 0 0) (some (c1.1 2 (nn 0 6))) (qE c1 lg1 (u2 (u2 z1 2 s 1) 3 s (nI (nn 0 7))) w) = _ from f1), xI9 f2.1, f2.2.1 0 9 rfl, xR2 f2.1, sO f2.1 _ _ _ _ hs5, jr_bd j1]; rfl
          · simp only [fX8_synchronize]
            rw [mO hW3, jr_bd (m_srv hW3 hM hs hn), jr_f (by decide), mI5 hW3, hM.1.1.2.1, jr_f (ldn hg), mR1 hW3, mG1 hW3 _ _ _ _ hs5, (hM.1.2 s hs5).1 hs, jr_f hupx, mR2 hW3, mG2 hW3 _ _ _ _ hs5, (hM.1.2 s hs5).2.1, jr_t (by rw [hac]; rfl), mO hW3, jr_bd m1, mR3 hW3, mI6 hW3, m2.1.1.2.2.1, n2_k (by decide), mS3 hW3 _ _ _ _ _ hs5, mO hW3, jr_bd m3, mI8 hW3, m4.1.1.2.2.2.2.1, mO hW3, jr_bd m5]; rfl
        · refine GO.read (v := -2) hX hM hI ?_ ?_
          · simp only [fX7_synchronize]
            rw [xO hW, jr_bd (x_srv hX hs hn), jr_f (by simp), xR6 hW, hX.2.1 0 6 rfl, chf_s hg, jr_f (by simp), sI3 hW _ _ _ _ hs5, hX.2.1 1 s (by simp [dX, hs5]), jr_f hupx, sI4 hW _ _ _ _ hs5, hX.2.1 2 s (by simp [dX, hs5]), jr_f (fun e => hac ((nI_e0 (by omega)).mp e))]; rfl
          · simp only [fX8_synchronize]
            rw [mO hW, jr_bd (m_srv hW hM hs hn), jr_f (by decide), mI5 hW, hM.1.1.2.1, jr_f (ldn hg), mR1 hW, mG1 hW _ _ _ _ hs5, (hM.1.2 s hs5).1 hs, jr_f hupx, mR2 hW, mG2 hW _ _ _ _ hs5, (hM.1.2 s hs5).2.1, jr_f (fun e => hac ((nI_e0 (by omega)).mp e))]; rfl
  · refine GO.read (v := -1) hX hM hI ?_ ?_
    · simp only [fX7_synchronize]
      rw [xO hW, jr_bd (x_srvn hX hx), jr_t rfl]; rfl
    · simp only [fX8_synchronize]
      rw [mO hW, jr_bd (m_srvn hW hM hx hn), jr_t rfl]; rfl
end SY
