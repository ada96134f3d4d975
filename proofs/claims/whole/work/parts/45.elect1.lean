/-! ===== an election: what it does, and that what holds goes on to hold ===== -/
section EL
variable {N : Nat} {nn : NN} {lo : Nat → List TX} {tr : Nat → List ND} {wt : List WT}
theorem nid_len {l l' m : List TX} (h : l <+: m) (h' : l' <+: m) (hs : ∀ (j k : Nat) (x y : TX), m[j]? = some x → m[k]? = some y → j < k → x.1 < y.1) (hp : ∀ x : TX, x ∈ m → 0 < x.1) (hn : nid l ≤ nid l') : l.length ≤ l'.length := by
  by_cases hlt : l.length ≤ l'.length
  · exact hlt
  · exfalso
    have hl := h.length_le
    have hl' := h'.length_le
    have e : ∀ {a : List TX}, a <+: m → 0 < a.length → ∃ x, m[a.length - 1]? = some x ∧ nid a = x.1 := by
      intro a ha h0
      obtain ⟨t, rfl⟩ := ha
      have hg : a[a.length - 1]? = some (a[a.length - 1]'(by omega)) := List.getElem?_eq_getElem (by omega)
      refine ⟨_, by rw [List.getElem?_append_left (by omega)]; exact hg, ?_⟩
      unfold nid
      rw [List.getLast?_eq_getElem?, hg]
    obtain ⟨x, x1, x2⟩ := e h (by omega)
    have hx := hp x (List.mem_of_getElem? x1)
    by_cases h0 : l'.length = 0
    · have : l' = [] := List.eq_nil_of_length_eq_zero h0
      subst this
      have : nid ([] : List TX) = 0 := rfl
      omega
    · obtain ⟨y, y1, y2⟩ := e h' (by omega)
      have := hs _ _ y x y1 x1 (by omega)
      omega
/-- the numbers and logs after an election of g, before anything is applied -/
def nnE (nn : NN) (g L : Nat) : NN := fun k i => if k = 0 then (if i = 6 then g else if i = 7 then nn 3 g + 1 else if i = 8 then 0 else if i = 9 then L else nn 0 i) else if k = 2 ∧ i < 5 ∧ nn 1 i = 1 then 1 else if k = 3 ∧ i < 5 ∧ nn 1 i = 1 then nn 3 g + 1 else nn k i
def loE (nn : NN) (lo : Nat → List TX) (g : Nat) : Nat → List TX := fun i => if i < 5 ∧ nn 1 i = 1 then lo g else lo i
theorem INV.el {g : Nat} (h : INV N nn lo tr wt) (hl : nn 0 6 = 4294967288) (hg : g < 5) (hup : nn 1 g = 1) (hq : qm nn ≤ cn (fun i => decide (nn 1 i ≠ 0)) 5) (hbest : ∀ i, i < 5 → nn 1 i = 1 → nn 3 i < nn 3 g ∨ (nn 3 i = nn 3 g ∧ nid (lo i) ≤ nid (lo g))) : INV (N + 1) (nnE nn g (lo g).length) (loE nn lo g) (va_up tr 5 (rp (lo g))) wt := by
  have hz2 := INV_z2 h
  obtain ⟨i1, i2, i3, ⟨i4, i5, i6⟩, i7, ⟨g0, g1, g2, g3, g4, g5, g6, g7⟩, i9, i10⟩ := h
  have hn5 := i1.2.1
  -- a server that is up has all that was committed
  have hupn : cn (fun i => decide (nn 1 i ≠ 0)) 5 = cn (fun i => decide (nn 1 i ≠ 0)) (nn 0 4) := cn_5 hn5 (fun j q1 q2 => by simp [(i2 j q2).2.2.1 q1])
  rw [hupn] at hq
  obtain ⟨j, j1, j2, j3⟩ := cn_meet (f := fun i => decide (nn 1 i ≠ 0)) (g := fun i => decide (nn 3 i = nn 0 7 ∧ nn 0 9 ≤ (lo i).length)) (nn 0 4) (by unfold qm at hq g7; omega)
  simp only [decide_eq_true_eq] at j2 j3
  have hj5 : j < 5 := by omega
  have hju : nn 1 j = 1 := by have := (i2 j hj5).1; omega
  have hE : nn 3 g = nn 0 7 ∧ nid (lo j) ≤ nid (lo g) := by
    have hle := (i2 g hg).2.2.2.2
    rcases hbest j hj5 hju with q | ⟨q1, q2⟩
    · omega
    · exact ⟨by omega, q2⟩
  have hpg : lo g <+: lo g0 := g5 g hg hE.1
  have hlen : nn 0 9 ≤ (lo g).length := Nat.le_trans j3.2 (nid_len (g5 j hj5 j3.1) hpg (i9 g0 g1).1 (fun x hx => ((i9 g0 g1).2 x hx).1) hE.2)
  have hno : ∀ i, i < 5 → nn 2 i = 0 := by
    rcases i3 with q | ⟨q1, -⟩
    · exact q.2
    · omega
  have hct : nn 0 8 ≤ 40 := Nat.le_trans g4 (i7 g0 g1).1
  -- names
  have e4 : nnE nn g (lo g).length 0 4 = nn 0 4 := rfl
  have k1 : ∀ i, nnE nn g (lo g).length 1 i = nn 1 i := fun i => by simp [nnE]
  have k4 : ∀ i, nnE nn g (lo g).length 4 i = nn 4 i := fun i => by simp [nnE]
  have k10 : ∀ i, nnE nn g (lo g).length 10 i = nn 10 i := fun i => by simp [nnE]
  have k2u : ∀ i, i < 5 → nn 1 i = 1 → nnE nn g (lo g).length 2 i = 1 := fun i a b => by simp [nnE, a, b]
  have k2d : ∀ i, i < 5 → nn 1 i ≠ 1 → nnE nn g (lo g).length 2 i = 0 := fun i a b => by simp [nnE, b, hno i a]
  have k3u : ∀ i, i < 5 → nn 1 i = 1 → nnE nn g (lo g).length 3 i = nn 0 7 + 1 := fun i a b => by simp [nnE, a, b, hE.1]
  have k3d : ∀ i, i < 5 → nn 1 i ≠ 1 → nnE nn g (lo g).length 3 i = nn 3 i := fun i a b => by simp [nnE, b]
  have lu : ∀ i, i < 5 → nn 1 i = 1 → loE nn lo g i = lo g := fun i a b => if_pos ⟨a, b⟩
  have ld : ∀ i, nn 1 i ≠ 1 → loE nn lo g i = lo i := fun i b => if_neg (fun q => b q.2)
  have e7 : nnE nn g (lo g).length 0 7 = nn 0 7 + 1 := by simp [nnE, hE.1]
  have e9 : nnE nn g (lo g).length 0 9 = (lo g).length := rfl
  have e6 : nnE nn g (lo g).length 0 6 = g := rfl
  have e8 : nnE nn g (lo g).length 0 8 = 0 := rfl
  have e5 : nnE nn g (lo g).length 0 5 = nn 0 5 := rfl
  have e10 : nnE nn g (lo g).length 0 10 = nn 0 10 := rfl
  have e11 : nnE nn g (lo g).length 0 11 = nn 0 11 := rfl
  have lany : ∀ i, i < 5 → ∃ i', i' < 5 ∧ loE nn lo g i = lo i' := fun i hi => by
    by_cases q : nn 1 i = 1
    · exact ⟨g, hg, lu i hi q⟩
    · exact ⟨i, hi, ld i q⟩
  have htk : ∀ i, i < 5 → (lo i).take (nn 4 i) = (lo g).take (nn 4 i) := fun i hi => by
    rw [g6 i hi, pre_take hpg (by have := (i7 i hi).2.2.2.2; omega)]
  generalize hnn : nnE nn g (lo g).length = nE at *
  unfold INV WV qm
  simp only [e4, e5, e6, e7, e8, e9, e10, e11, k1, k4, k10]
  refine ⟨i1, fun i hi => ?_, Or.inr ⟨hg, k2u g hg hup, by rw [va_s, lu g hg hup]⟩, ⟨i4, fun k hk => Nat.le_succ_of_le (i5 k hk), by omega⟩, fun i hi => ?_, ⟨g, hg, fun _ => rfl, by rw [lu g hg hup]; exact Nat.le_refl _, by omega, fun i hi he => ?_, fun i hi => ?_, ?_⟩, fun i hi => ?_, fun i k x y hi hk hx hy e => ?_⟩
  · obtain ⟨b1, b2, b3, b4, b5⟩ := i2 i hi
    by_cases q : nn 1 i = 1
    · rw [k2u i hi q, k3u i hi q]
      exact ⟨b1, Nat.le_refl _, b3, fun _ => ⟨q, rfl⟩, Nat.le_refl _⟩
    · rw [k2d i hi q, k3d i hi q]
      exact ⟨b1, by omega, b3, fun q => by omega, by omega⟩
  · obtain ⟨a1, a2, a3, a4, a5⟩ := i7 i hi
    obtain ⟨c1, c2, c3, c4, c5⟩ := i7 g hg
    rw [va_n (by omega)]
    by_cases q : nn 1 i = 1
    · rw [lu i hi q]
      exact ⟨c1, c2, by rw [a3, htk i hi], by omega, by omega⟩
    · rw [ld i q]
      exact ⟨a1, a2, a3, a4, by omega⟩
  · rw [lu g hg hup]
    by_cases q : nn 1 i = 1
    · rw [lu i hi q]; exact List.prefix_refl _
    · rw [k3d i hi q] at he
      have := (i2 i hi).2.2.2.2
      omega
  · rw [lu g hg hup]
    by_cases q : nn 1 i = 1
    · rw [lu i hi q]
    · rw [ld i q]; exact htk i hi
  · refine cn_lo (fun j hj q => ?_) hq
    simp only [decide_eq_true_eq] at q ⊢
    have hj5 : j < 5 := by omega
    have hj1 : nn 1 j = 1 := by have := (i2 j hj5).1; omega
    rw [k3u j hj5 hj1, lu j hj5 hj1]
    exact ⟨rfl, Nat.le_refl _⟩
  · obtain ⟨i', hi', e⟩ := lany i hi
    rw [e]
    refine ⟨(i9 i' hi').1, fun x hx => ?_⟩
    have := (i9 i' hi').2 x hx
    omega
  · obtain ⟨i', hi', e1⟩ := lany i hi
    obtain ⟨k', hk', e2⟩ := lany k hk
    rw [e1] at hx
    rw [e2] at hy
    exact i10 i' k' x y hi' hk' hx hy e
/-! the candidate -/
def ahd (nn : NN) (lo : Nat → List TX) (b s : Nat) : Bool := decide (nn 3 b < nn 3 s ∨ (nn 3 s = nn 3 b ∧ nid (lo b) ≤ nid (lo s)))
/-- the best candidate among the servers below j -/
def bst (nn : NN) (lo : Nat → List TX) : Nat → Option Nat
  | 0 => none
  | j + 1 => if nn 1 j = 1 then (match bst nn lo j with
    | none => some j
    | some b => if ahd nn lo b j = true then some j else some b) else bst nn lo j
theorem bst_none {j : Nat} (h : bst nn lo j = none) : ∀ i, i < j → nn 1 i ≠ 1 := by
  induction j with
  | zero => intro i hi; omega
  | succ j ih =>
    simp only [bst] at h
    by_cases q : nn 1 j = 1
    · rw [if_pos q] at h
      cases hb : bst nn lo j with
      | none => rw [hb] at h; cases h
      | some b =>
        rw [hb] at h
        simp only at h
        split at h <;> cases h
    · rw [if_neg q] at h
      intro i hi
      by_cases e : i = j
      · subst e; exact q
      · exact ih h i (by omega)
theorem bst_some {j g : Nat} (h : bst nn lo j = some g) : g < j ∧ nn 1 g = 1 ∧ ∀ i, i < j → nn 1 i = 1 → nn 3 i < nn 3 g ∨ (nn 3 i = nn 3 g ∧ nid (lo i) ≤ nid (lo g)) := by
  induction j generalizing g with
  | zero => simp [bst] at h
  | succ j ih =>
    simp only [bst] at h
    by_cases q : nn 1 j = 1
    · rw [if_pos q] at h
      cases hb : bst nn lo j with
      | none =>
        rw [hb] at h
        cases h
        refine ⟨by omega, q, fun i hi hu => ?_⟩
        by_cases e : i = j
        · subst e; exact Or.inr ⟨rfl, Nat.le_refl _⟩
        · exact absurd hu (bst_none hb i (by omega))
      | some b =>
        rw [hb] at h
        simp only at h
        obtain ⟨h1, h2, h3⟩ := ih hb
        by_cases ha : ahd nn lo b j = true
        · rw [if_pos ha] at h
          cases h
          simp only [ahd, decide_eq_true_eq] at ha
          refine ⟨by omega, q, fun i hi hu => ?_⟩
          by_cases e : i = j
          · subst e; exact Or.inr ⟨rfl, Nat.le_refl _⟩
          · have := h3 i (by omega) hu
            omega
        · rw [if_neg ha] at h
          cases h
          simp only [ahd, decide_eq_true_eq] at ha
          refine ⟨by omega, h2, fun i hi hu => ?_⟩
          by_cases e : i = j
          · subst e; omega
          · exact h3 i (by omega) hu
    · rw [if_neg q] at h
      obtain ⟨h1, h2, h3⟩ := ih h
      refine ⟨by omega, h2, fun i hi hu => ?_⟩
      by_cases e : i = j
      · subst e; exact absurd hu q
      · exact h3 i (by omega) hu
end EL
