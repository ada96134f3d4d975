/-! ===== the proposed tree laid anew; the class's election as a whole ===== -/
section EY
variable {c : CX} {lg : LG} {z w : ZZ} {N : Nat} {nn : NN} {lo : Nat → List TX} {tr : Nat → List ND} {wt : List WT}
theorem slots_nil {i : Nat} (h : ∀ m, m < 12 → z 5 (12 * i + m) = -1) : slots z i = [] := by
  apply List.eq_nil_iff_forall_not_mem.mpr
  intro nd hn
  obtain ⟨m, h1, h2⟩ := slots_mem.mp hn
  exact (slot_some h2).2.2.2.2 (h m h1)
theorem x_again_l {g : Nat} {l : List TX} (w : ZZ) (hg : g < 5) (hl : l.length ≤ 40) (hR : RV l) (hlo : lo g = l) (hb : CB nn wt) : ∀ n j (lg : LG) (z : ZZ), j + n = l.length → RX c lg z nn lo (va_up tr 5 (rp (l.take j))) wt → ∀ f, n < f → ∃ lg' z', fX7_proposeLogAgain_9 f (c.1 0 0) (some (c.1 2 g)) (nI j) (qE c lg z w) = some ((), qE c lg' z' w) ∧ RX c lg' z' nn lo (va_up tr 5 (rp l)) wt := by
  intro n
  induction n with
  | zero =>
    intro j lg z hj hX f hf
    obtain ⟨f, rfl⟩ : ∃ k', f = k' + 1 := ⟨f - 1, by omega⟩
    refine ⟨lg, z, ?_, by rw [List.take_of_length_le (by omega)] at hX; exact hX⟩
    rw [fX7_proposeLogAgain_9, sR2 hX.1 _ _ _ _ hg, lO hX.1 _ _ _ _ (by omega), lS hX.1 _ _ _ _ (by omega), hX.len.2 g hg, hlo, jr_t (nI_le (by omega) (by omega))]; rfl
  | succ n ih =>
    intro j lg z hj hX f hf
    obtain ⟨f, rfl⟩ : ∃ k', f = k' + 1 := ⟨f - 1, by omega⟩
    have hjl : j < l.length := by omega
    have hgj : l[j]? = some l[j] := List.getElem?_eq_getElem hjl
    obtain ⟨a, b1, b2, b3⟩ := hX.xa hg (by rw [hlo]; exact hgj)
    obtain ⟨lg1, z1, e1, e2, -⟩ := x_carry w hX (show 5 < 6 by omega) b2 b3 (by rw [va_s]; exact hR j _ hgj) (by rw [va_s]; exact rp_TV hR j) (fun nd hn => by rw [va_s] at hn; have := rp_ver j nd hn; omega) hb
    rw [cy_5 (fun v hv => (hb.1.2 v hv).1), va_s, va_va, ← rp_take hgj] at e2
    obtain ⟨lg2, z2, f1, f2⟩ := ih (j + 1) lg1 z1 (by omega) e2 f (by omega)
    refine ⟨lg2, z2, ?_, f2⟩
    rw [fX7_proposeLogAgain_9, sR2 hX.1 _ _ _ _ hg, lO hX.1 _ _ _ _ (by omega), lS hX.1 _ _ _ _ (by omega), hX.len.2 g hg, hlo, jr_f (nI_ge (by omega) (by omega)), xR3 hX.1, sR2 hX.1 _ _ _ _ hg, lO hX.1 _ _ _ _ (by omega), jr_bd (b1 w), xTc _ _ _ _ b2, xR2 hX.1, tO hX.1 _ _ _ _ (by omega), jr_bd e1, nI_1]
    exact f1
theorem x_again {g : Nat} (w : ZZ) (hX : RX c lg z nn lo tr wt) (hg : g < 5) (hl : (lo g).length ≤ 40) (hR : RV (lo g)) (hb : CB nn wt) : ∃ lg' z', fX7_proposeLogAgain (c.1 0 0) (some (c.1 2 g)) (qE c lg z w) = some ((), qE c lg' z' w) ∧ RX c lg' z' nn lo (va_up tr 5 (rp (lo g))) wt := by
  obtain ⟨z1, e1, e2, e3, e4⟩ := x_clear (z := z) (w := w) hX.1 (show 5 < 6 by omega)
  have hX1 : RX c lg z1 nn lo (va_up tr 5 []) wt := by
    refine hX.tree (fun f hf => e2 f (by omega)) (fun i' h1 h2 m h3 => ?_) (by rw [slots_nil e4])
    unfold slot
    rw [e2 6 (by decide), e2 7 (by decide), e2 8 (by decide), e3 _ (by omega)]
  obtain ⟨lg2, z2, f1, f2⟩ := x_again_l (lo := lo) w hg hl hR rfl hb (lo g).length 0 lg z1 (by omega) hX1 4096 (by omega)
  refine ⟨lg2, z2, ?_, f2⟩
  unfold fX7_proposeLogAgain
  rw [xR3 hX.1, tO hX.1 _ _ _ _ (by omega), jr_bd e1]
  exact f1
theorem nnE_eq {g : Nat} (hno : ∀ i, i < 5 → nn 2 i = 0) : n2 (nnP (n2 (n2 (n2 nn 0 6 g) 0 7 (nn 3 g + 1)) 0 8 0) nn (nn 3 g + 1) 5) 0 9 (lo g).length = nnE nn g (lo g).length := by
  funext k i
  by_cases h0 : k = 0
  · subst h0
    by_cases h9 : i = 9
    · subst h9; rw [n2_s]; rfl
    · rw [n2_i h9, nnP_k (by decide) (by decide)]
      by_cases h8 : i = 8
      · subst h8; rw [n2_s]; rfl
      · rw [n2_i h8]
        by_cases h7 : i = 7
        · subst h7; rw [n2_s]; rfl
        · rw [n2_i h7]
          by_cases h6 : i = 6
          · subst h6; rw [n2_s]; rfl
          · rw [n2_i h6]
            simp [nnE, h6, h7, h8, h9]
  · rw [n2_k h0]
    unfold nnP nnE
    rw [n2_k h0, n2_k h0, n2_k h0, if_neg h0]
theorem loE_eq {g : Nat} : loP nn lo g 5 = loE nn lo g := rfl
theorem aps_5 {q : NN × (Nat → List ND) × List WT} : ∀ j, j ≤ 5 → (aps lo j q).2.1 5 = q.2.1 5 := by
  intro j
  induction j with
  | zero => intro _; rfl
  | succ j ih =>
    intro hj
    simp only [aps]
    split
    · show va_up (aps lo j q).2.1 j _ 5 = _
      rw [va_n (by omega)]
      exact ih (by omega)
    · exact ih (by omega)
/-- the class elects g -/
theorem x_elect {g : Nat} (w : ZZ) (hX : RX c lg z nn lo tr wt) (hI : INV N nn lo tr wt) (hN : N < 600) (hl : nn 0 6 = 4294967288) (hq : qm nn ≤ cn (fun i => decide (nn 1 i ≠ 0)) 5) (hb : bst nn lo 5 = some g) : ∃ c' lg' z', fX7_elect (c.1 0 0) (qE c lg z w) = some (nI g, qE c' lg' z' w) ∧ RX c' lg' z' (aps (loE nn lo g) 5 (nnE nn g (lo g).length, va_up tr 5 (rp (lo g)), wt)).1 (loE nn lo g) (aps (loE nn lo g) 5 (nnE nn g (lo g).length, va_up tr 5 (rp (lo g)), wt)).2.1 (aps (loE nn lo g) 5 (nnE nn g (lo g).length, va_up tr 5 (rp (lo g)), wt)).2.2 ∧ INV (N + 1) (aps (loE nn lo g) 5 (nnE nn g (lo g).length, va_up tr 5 (rp (lo g)), wt)).1 (loE nn lo g) (aps (loE nn lo g) 5 (nnE nn g (lo g).length, va_up tr 5 (rp (lo g)), wt)).2.1 (aps (loE nn lo g) 5 (nnE nn g (lo g).length, va_up tr 5 (rp (lo g)), wt)).2.2 ∧ KE c c' 210 11700 := by
  have hW := hX.1
  have hn := hI.1.2.1
  obtain ⟨hg, hup, hbest⟩ := bst_some hb
  have hno : ∀ i, i < 5 → nn 2 i = 0 := by
    rcases hI.2.2.1 with q | ⟨q, -⟩
    · exact q.2
    · omega
  have hu : ∀ i, i < 5 → nn 1 i ≤ 1 := fun i hi => (hI.2.1 i hi).1
  have h3 : ∀ i, i < 5 → nn 3 i < 2 ^ 31 := fun i hi => by
    have := (hI.2.1 i hi).2.2.2.2
    have := hI.2.2.2.1.2.2
    omega
  have hid : ∀ i, i < 5 → nid (lo i) < 2 ^ 31 := fun i hi => by
    unfold nid
    cases hx : (lo i).getLast? with
    | none => simp
    | some x =>
      simp only
      have hm := List.mem_of_getLast? hx
      obtain ⟨k, hk⟩ := List.getElem?_of_mem hm
      have := ((hI.2.2.2.2.1 i hi).2.1 k x hk).1
      omega
  have hIE := hI.el hl hg hup hq (fun i hi h => hbest i hi h)
  have hIA := INV_aps hIE (by omega) 5 (by omega)
  have hX1 := ((hX.n (k := 0) (i := 6) (v := g) rfl).n (k := 0) (i := 7) (v := nn 3 g + 1) rfl).n (k := 0) (i := 8) (v := 0) rfl
  have hP0 : nnP (n2 (n2 (n2 nn 0 6 g) 0 7 (nn 3 g + 1)) 0 8 0) nn (nn 3 g + 1) 0 = n2 (n2 (n2 nn 0 6 g) 0 7 (nn 3 g + 1)) 0 8 0 := by
    funext k i
    simp [nnP]
  have hL0 : loP nn lo g 0 = lo := by
    funext i
    simp [loP]
  obtain ⟨c1, lg1, z1, e1, e2, e3⟩ := x_beg_l (n0 := n2 (n2 (n2 nn 0 6 g) 0 7 (nn 3 g + 1)) 0 8 0) (E := nn 3 g + 1) w hI hg (fun i => by rw [n2_k (by decide), n2_k (by decide), n2_k (by decide)]) (by rw [n2_i (by decide), n2_s]) 5 0 c lg _ (by omega) (by rw [hP0, hL0]; exact hX1) 4096 (by omega)
  have hX2 := e2.n (k := 0) (i := 9) (v := (lo g).length) rfl
  rw [nnE_eq hno, loE_eq] at hX2
  have htr : va_up (va_up tr 5 (rp (lo g))) 5 (tr 5) = tr := by rw [va_va, va_self]
  obtain ⟨lg2, z2, f1, f2⟩ := x_app_l (c := c1) (g := g) (t5 := tr 5) rfl w hIE (by omega) 5 0 lg1 _ (by omega) (by show RX c1 lg1 _ (nnE nn g (lo g).length) (loE nn lo g) (va_up (va_up tr 5 (rp (lo g))) 5 (tr 5)) wt; rw [htr]; exact hX2) 4096 (by omega)
  have hlg : loE nn lo g g = lo g := if_pos ⟨hg, hup⟩
  obtain ⟨lg3, z3, g1, g2⟩ := x_again (g := g) w f2 hg (by rw [hlg]; exact hI.ll g hg) (by rw [hlg]; exact (hI.2.2.2.2.1 g hg).2.1) (hIA.CB (by omega))
  have h5 : rp (loE nn lo g g) = (aps (loE nn lo g) 5 (nnE nn g (lo g).length, va_up tr 5 (rp (lo g)), wt)).2.1 5 := by
    have k5 := aps_5 (lo := loE nn lo g) (q := (nnE nn g (lo g).length, va_up tr 5 (rp (lo g)), wt)) 5 (by omega)
    rw [k5, hlg]
    show rp (lo g) = va_up tr 5 (rp (lo g)) 5
    rw [va_s]
  rw [va_va, h5, va_self] at g2
  refine ⟨c1, lg3, z3, ?_, g2, hIA, e3.mono (by omega) (by omega)⟩
  have hbeg : fX7_beginEpoch (c.1 0 0) (some (c.1 2 g)) (qE c lg z w) = some ((), qE c1 lg3 z3 w) := by
    unfold fX7_beginEpoch
    rw [xP6 hW _ _ _ _ hg, sI5 hW _ _ _ _ hg, u2_k (by decide), hX.2.1 3 g (by simp [dX, hg]), nI_1, xP7 hW, xP8 hW, xR0 hW, xSl hW]
    refine e1.trans ?_
    rw [xP9 e2.1, xR0 e2.1, xSl e2.1]
    refine f1.trans ?_
    rw [xO f2.1, jr_bd g1]; rfl
  unfold fX7_elect
  rw [xR6 hW, hX.2.1 0 6 rfl, hl, chf_n, jr_t rfl, xO hW, jr_bd (x_ups hX hu), xO hW, jr_bd (x_quo hX hn)]
  have hc5 := cn_le (fun i => decide (nn 1 i ≠ 0)) 5
  rw [jr_t (nI_le hq (by omega)), xO hW, jr_bd (x_best hX hu hI.ll h3 hid), hb, show Option.map (c.1 2) (some g) = some (c.1 2 g) from rfl, jr_f (by simp), xO hW, jr_bd hbeg, ← e3.1 2 g (by decide), sI0 g2.1 _ _ _ _ hg]; rfl
end EY
