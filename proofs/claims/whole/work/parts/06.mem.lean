/-! ===== an abstract memory beside the heap: cells by address, the next address, the slots made, the shared empty row ===== -/
abbrev jm_V : Type := Int32 ⊕ Option Nat
abbrev jm_E : Type := (Nat × Nat × ((Nat → Int32) ⊕ (Nat → Option Nat))) ⊕ (Nat × List jm_V)
abbrev jm_M : Type := Nat → Option jm_E
abbrev jm_S : Type := jm_M × Nat × Nat × Nat
abbrev jm_P (α : Type) : Type := jm_S → Option (α × jm_S)
/-- (numbers of the classes, slots of their fields, numbers of the array classes by kind, the class object of Object[], the first address of ours, the shared empty row) -/
abbrev jm_G : Type := (Nat → ClassId) × (Nat → Nat → Nat) × (Nat → ClassId) × Nat × Nat × Nat
def jm_v : jm_V → Value
  | .inl x => .int x
  | .inr r => va_rf r
def jm_e (dA : Nat → ClassId) : jm_E → va_E
  | .inl (t, n, .inl f) => .inl (dA t, n, .inl f)
  | .inl (t, n, .inr f) => .inl (dA t, n, .inr (.inr (.inr (.inr f))))
  | .inr (ci, fs) => .inr (ci, fs.map jm_v)
abbrev jm_fz : jm_E := .inl (6, 0, .inr (fun _ => none))
abbrev jm_D (G : jm_G) : va_G := (G.1, G.2.1)
abbrev jm_A (G : jm_G) : Nat → Prop := fun q => G.2.2.2.2.1 ≤ q
abbrev jm_tys (G : jm_G) : List (ClassId × FieldType) := [(G.2.2.1 0, .int), (G.2.2.1 1, .boolean), (G.2.2.1 2, .object RX0), (G.2.2.1 3, .object RX1), (G.2.2.1 4, .object RX2), (G.2.2.1 5, .object "java/lang/Object")]
def jm_J (G : jm_G) (S : jm_S) (H : Heap) : Prop := (∀ (a : Nat) (e : jm_E), S.1 a = some e → (a = G.2.2.2.2.2 ∧ e = jm_fz) ∨ (jm_A G a ∧ va_at (jm_D G) vwCl (a, jm_e G.2.2.1 e) H)) ∧ H.size = S.2.1 ∧ S.2.2.2 = G.2.2.2.2.2
/-- what stands beside the memory in every state of ours -/
def jm_X (G : jm_G) (U : State) : Prop :=
  va_K (jm_D G) vwCl (jm_tys G) U ∧ va_Z "java/util/ArrayList" "DEFAULTCAPACITY_EMPTY_ELEMENTDATA" "[Ljava/lang/Object;" (.ref G.2.2.2.2.2) (jm_A G) U U.heap ∧ va_T (.object "java/lang/Object") G.2.2.2.2.2 0 (fun _ => .null) (jm_A G) U U.heap ∧ G.2.2.2.2.1 ≤ U.heap.size ∧
  (va_AO RX0 U ∧ va_AO RX1 U ∧ va_AO RX2 U ∧ va_AO "java/lang/Object" U) ∧ (va_Nw (.castable RX3 "java/lang/Object") U ∧ va_Nw (.castable RX5 "java/lang/Object") U) ∧ (va_Mi "[Ljava/lang/Object;" G.2.2.2.1 U ∧ va_Dc U) ∧
  (va_Nw (.methodLinkNest "CoordinationService" 23 yX6_init "CoordinationService") U ∧ va_Nw (.methodLinkNest "CoordinationService$Tree" 21 yX0_init "CoordinationService") U ∧ va_Nw (.methodLinkNest "CoordinationService$Tree" 81 yX7_rankOf "CoordinationService") U ∧ va_Nw (.methodLinkNest "CoordinationService$Tree" 25 yX7_parentOf "CoordinationService") U)
theorem jm_X.go {G : jm_G} {s U : State} {H : Heap} {locs : List Loc} (h : jm_X G s) (hS : va_S (jm_A G) s.heap H locs) (hU : U.heap = H) (hW : s.WarmedH U.vm) : jm_X G U := by
  obtain ⟨h1, h2, h3, h4, ⟨a1, a2, a3, a4⟩, ⟨b1, b2⟩, ⟨c1, c2⟩, d1, d2, d3, d4⟩ := h
  subst hU
  exact ⟨va_K.moved hW.alike h1, (h2.kept hS.2.1).moved hW.alike, (h3.kept hS.2.1).moved hW.alike, Nat.le_trans h4 hS.1, ⟨a1.moved hW.alike, a2.moved hW.alike, a3.moved hW.alike, a4.moved hW.alike⟩, ⟨b1.warmC hW, b2.warmC hW⟩, ⟨c1.moved hW.alike, c2.moved hW.alike⟩, d1.warmM hW, d2.warmM hW, d3.warmM hW, d4.warmM hW⟩
theorem jm_X.same {G : jm_G} {s U : State} (h : jm_X G s) (hU : U.heap = s.heap) (hV : s.vm = U.vm) : jm_X G U := by
  obtain ⟨h1, h2, h3, h4, ⟨a1, a2, a3, a4⟩, ⟨b1, b2⟩, ⟨c1, c2⟩, d1, d2, d3, d4⟩ := h
  have hA : s.vm.Alike U.vm := hV ▸ Vm.Alike.refl s.vm
  exact ⟨va_K.moved hA h1, by rw [hU]; exact h2.moved hA, by rw [hU]; exact h3.moved hA, by rw [hU]; exact h4, ⟨a1.moved hA, a2.moved hA, a3.moved hA, a4.moved hA⟩, ⟨b1.same rfl hV, b2.same rfl hV⟩, ⟨c1.moved hA, c2.moved hA⟩, d1.same rfl hV, d2.same rfl hV, d3.same rfl hV, d4.same rfl hV⟩
/-- a memory's cell changes -/
theorem jm_J.set {G : jm_G} {S : jm_S} {H H1 : Heap} {a : Nat} {e0 e : jm_E} (h : jm_J G S H) (ha : S.1 a = some e0) (hz : e0 ≠ jm_fz) (he : va_at (jm_D G) vwCl (a, jm_e G.2.2.1 e) H1) (z : H1.size = H.size) (oq : ∀ q : Nat, q ≠ a → H1[q]? = H[q]?) : jm_J G (va_up S.1 a (some e), S.2) H1 := by
  refine ⟨fun b e1 hb => ?_, z.trans h.2.1, h.2.2⟩
  by_cases hba : b = a
  · subst hba
    simp only [va_up, if_true] at hb
    cases hb
    rcases h.1 b e0 ha with ⟨-, q⟩ | ⟨q, -⟩
    · exact absurd q hz
    · exact Or.inr ⟨q, he⟩
  · simp only [va_up, if_neg hba] at hb
    rcases h.1 b e1 hb with q | ⟨q1, q2⟩
    · exact Or.inl q
    · exact Or.inr ⟨q1, q2.kept (oq b hba)⟩
/-- a memory's cell is made -/
theorem jm_J.new {G : jm_G} {S : jm_S} {H H1 : Heap} {e : jm_E} (h : jm_J G S H) (hA : jm_A G H.size) (he : va_at (jm_D G) vwCl (H.size, jm_e G.2.2.1 e) H1) (z : H1.size = H.size + 1) (oq : ∀ q : Nat, q < H.size → H1[q]? = H[q]?) (n : Nat) : jm_J G (va_up S.1 S.2.1 (some e), S.2.1 + 1, S.2.2.1 + n, S.2.2.2) H1 := by
  have hs : S.2.1 = H.size := h.2.1.symm
  refine ⟨fun b e1 hb => ?_, by rw [z]; show _ = S.2.1 + 1; rw [hs], h.2.2⟩
  by_cases hba : b = S.2.1
  · subst hba
    simp only [va_up, if_true] at hb
    cases hb
    rw [hs]
    exact Or.inr ⟨hA, he⟩
  · simp only [va_up, if_neg hba] at hb
    rcases h.1 b e1 hb with q | ⟨q1, q2⟩
    · exact Or.inl q
    · exact Or.inr ⟨q1, q2.kept (oq b q2.lt)⟩
theorem jm_S.put {A : Nat → Prop} {H0 H H1 : Heap} {locs : List Loc} (h : va_S A H0 H locs) (z : H1.size = H.size + 1) (oq : ∀ q : Nat, q < H.size → H1[q]? = H[q]?) : va_S A H0 H1 locs :=
  ⟨Nat.le_trans h.1 (by omega), fun q h1 h2 => (oq q (Nat.lt_of_lt_of_le h1 h.1)).trans (h.2.1 q h1 h2), h.2.2⟩
/-! ===== the words of the memory's programs ===== -/
def jm_ret {α : Type} (v : α) : jm_P α := fun S => some (v, S)
def jm_no {α : Type} : jm_P α := fun _ => none
def jm_rd {α β : Type} (g : jm_S → Option α) (f : α → jm_P β) : jm_P β := fun S => match g S with
  | none => none
  | some v => f v S
def jm_wr {β : Type} (g : jm_S → Option jm_S) (f : jm_P β) : jm_P β := fun S => match g S with
  | none => none
  | some S1 => f S1
def jm_bd {α β : Type} (x : jm_P α) (f : α → jm_P β) : jm_P β := fun S => match x S with
  | none => none
  | some q => f q.1 q.2
theorem jm_rd_ok {α β : Type} {g : jm_S → Option α} {f : α → jm_P β} {S : jm_S} {o : β × jm_S} (h : jm_rd g f S = some o) : ∃ v, g S = some v ∧ f v S = some o := by
  unfold jm_rd at h
  cases hg : g S with
  | none => rw [hg] at h; cases h
  | some v => rw [hg] at h; exact ⟨v, rfl, h⟩
theorem jm_wr_ok {β : Type} {g : jm_S → Option jm_S} {f : jm_P β} {S : jm_S} {o : β × jm_S} (h : jm_wr g f S = some o) : ∃ S1, g S = some S1 ∧ f S1 = some o := by
  unfold jm_wr at h
  cases hg : g S with
  | none => rw [hg] at h; cases h
  | some v => rw [hg] at h; exact ⟨v, rfl, h⟩
theorem jm_bd_ok {α β : Type} {x : jm_P α} {f : α → jm_P β} {S : jm_S} {o : β × jm_S} (h : jm_bd x f S = some o) : ∃ v S1, x S = some (v, S1) ∧ f v S1 = some o := by
  unfold jm_bd at h
  cases hg : x S with
  | none => rw [hg] at h; cases h
  | some q => rw [hg] at h; exact ⟨q.1, q.2, rfl, h⟩
theorem jm_no_ok {α : Type} {S : jm_S} {o : α × jm_S} (h : jm_no S = some o) : False := by cases h
def jm_ob (S : jm_S) (r : Option Nat) (ci : Nat) : Option (Nat × List jm_V) := match r with
  | none => none
  | some a => match S.1 a with
    | some (.inr q) => if q.1 = ci then some (a, q.2) else none
    | _ => none
theorem jm_ob_ok {S : jm_S} {r : Option Nat} {ci a : Nat} {fs : List jm_V} (h : jm_ob S r ci = some (a, fs)) : r = some a ∧ S.1 a = some (.inr (ci, fs)) := by
  unfold jm_ob at h
  cases r with
  | none => cases h
  | some b =>
    simp only at h
    split at h
    · next q hq =>
      split at h
      · next hc =>
        cases h
        exact ⟨rfl, by rw [hq, ← hc]⟩
      · cases h
    · cases h
/-- a row of numbers -/
def jm_ai (S : jm_S) (r : Option Nat) (t : Nat) : Option (Nat × Nat × (Nat → Int32)) := match r with
  | none => none
  | some a => match S.1 a with
    | some (.inl (t1, n, .inl f)) => if t1 = t then some (a, n, f) else none
    | _ => none
theorem jm_ai_ok {S : jm_S} {r : Option Nat} {t a n : Nat} {f : Nat → Int32} (h : jm_ai S r t = some (a, n, f)) : r = some a ∧ S.1 a = some (.inl (t, n, .inl f)) := by
  unfold jm_ai at h
  cases r with
  | none => cases h
  | some b =>
    simp only at h
    split at h
    · next t1 n1 f1 hq =>
      split at h
      · next hc =>
        cases h
        exact ⟨rfl, by rw [hq, ← hc]⟩
      · cases h
    · cases h
/-- a row of references -/
def jm_aq (S : jm_S) (r : Option Nat) (t : Nat) : Option (Nat × Nat × (Nat → Option Nat)) := match r with
  | none => none
  | some a => match S.1 a with
    | some (.inl (t1, n, .inr f)) => if t1 = t then some (a, n, f) else none
    | _ => none
theorem jm_aq_ok {S : jm_S} {r : Option Nat} {t a n : Nat} {f : Nat → Option Nat} (h : jm_aq S r t = some (a, n, f)) : r = some a ∧ S.1 a = some (.inl (t, n, .inr f)) := by
  unfold jm_aq at h
  cases r with
  | none => cases h
  | some b =>
    simp only at h
    split at h
    · next t1 n1 f1 hq =>
      split at h
      · next hc =>
        cases h
        exact ⟨rfl, by rw [hq, ← hc]⟩
      · cases h
    · cases h
def jm_gI (r : Option Nat) (ci k : Nat) (S : jm_S) : Option Int32 := match jm_ob S r ci with
  | none => none
  | some q => match q.2[k]? with
    | some (.inl v) => some v
    | _ => none
def jm_gR (r : Option Nat) (ci k : Nat) (S : jm_S) : Option (Option Nat) := match jm_ob S r ci with
  | none => none
  | some q => match q.2[k]? with
    | some (.inr v) => some v
    | _ => none
/-- the object itself: a receiver -/
def jm_o (r : Option Nat) (ci : Nat) (S : jm_S) : Option Nat := match jm_ob S r ci with
  | none => none
  | some q => some q.1
def jm_p (r : Option Nat) (ci k : Nat) (v : jm_V) (S : jm_S) : Option jm_S := match jm_ob S r ci with
  | none => none
  | some q => if k < q.2.length then some (va_up S.1 q.1 (some (.inr (ci, q.2.set k v))), S.2) else none
/-- a truth value -/
def jm_z (v : Int32) (S : jm_S) : Option Unit := if v = 0 ∨ v = 1 then some () else none
def jm_new (ci : Nat) (fs : List jm_V) : jm_P Nat := fun S => some (S.2.1, (va_up S.1 S.2.1 (some (.inr (ci, fs))), S.2.1 + 1, S.2.2.1 + fs.length, S.2.2.2))
def jm_na (t : Nat) (n : Int32) : jm_P (Option Nat) := fun S => if n < 0 ∨ 1000000 < n.toNatClampNeg then none else some (some S.2.1, (va_up S.1 S.2.1 (some (.inl (t, n.toNatClampNeg, .inl (fun _ => 0)))), S.2.1 + 1, S.2.2.1 + n.toNatClampNeg, S.2.2.2))
def jm_nq (t : Nat) (n : Int32) : jm_P (Option Nat) := fun S => if n < 0 ∨ 1000000 < n.toNatClampNeg then none else some (some S.2.1, (va_up S.1 S.2.1 (some (.inl (t, n.toNatClampNeg, .inr (fun _ => none)))), S.2.1 + 1, S.2.2.1 + n.toNatClampNeg, S.2.2.2))
def jm_li (r : Option Nat) (t : Nat) (S : jm_S) : Option Int32 := match jm_ai S r t with
  | none => none
  | some q => some (Int32.ofNat q.2.1)
/-- the length of a row of references; of kind 5 it may be the shared empty one -/
def jm_lq (r : Option Nat) (t : Nat) (S : jm_S) : Option Int32 := if t = 5 ∧ r = some S.2.2.2 then (if S.1 S.2.2.2 = none then none else some 0) else match jm_aq S r t with
  | none => none
  | some q => some (Int32.ofNat q.2.1)
def jm_gi (r : Option Nat) (t : Nat) (i : Int32) (S : jm_S) : Option Int32 := match jm_ai S r t with
  | none => none
  | some q => if i < 0 ∨ q.2.1 ≤ i.toNatClampNeg then none else some (q.2.2 i.toNatClampNeg)
def jm_gq (r : Option Nat) (t : Nat) (i : Int32) (S : jm_S) : Option (Option Nat) := match jm_aq S r t with
  | none => none
  | some q => if i < 0 ∨ q.2.1 ≤ i.toNatClampNeg then none else some (q.2.2 i.toNatClampNeg)
def jm_si (r : Option Nat) (t : Nat) (i x : Int32) (S : jm_S) : Option jm_S := match jm_ai S r t with
  | none => none
  | some q => if i < 0 ∨ q.2.1 ≤ i.toNatClampNeg then none else some (va_up S.1 q.1 (some (.inl (t, q.2.1, .inl (upd q.2.2 i.toNatClampNeg x)))), S.2)
/-- may the reference lie in a row of kind t -/
def jm_fit (S : jm_S) (t : Nat) (x : Option Nat) : Bool := match x with
  | none => true
  | some v => match S.1 v with
    | some (.inr q) => (t == 5 && (q.1 == 4 || q.1 == 6)) || (t == 2 && q.1 == 1) || (t == 3 && q.1 == 2) || (t == 4 && q.1 == 3)
    | _ => false
def jm_sq (r : Option Nat) (t : Nat) (i : Int32) (x : Option Nat) (S : jm_S) : Option jm_S := match jm_aq S r t with
  | none => none
  | some q => if i < 0 ∨ q.2.1 ≤ i.toNatClampNeg then none else if jm_fit S t x = true then some (va_up S.1 q.1 (some (.inl (t, q.2.1, .inr (va_up q.2.2 i.toNatClampNeg x)))), S.2) else none
/-- System.arraycopy over rows of Object -/
def jm_cp (r0 : Option Nat) (sp : Int32) (r1 : Option Nat) (dp n : Int32) (S : jm_S) : Option jm_S := match jm_aq S r0 5, jm_aq S r1 5 with
  | some q0, some q1 => if (sp < 0 ∨ dp < 0 ∨ n < 0) ∨ q0.2.1 < sp.toNatClampNeg + n.toNatClampNeg ∨ q1.2.1 < dp.toNatClampNeg + n.toNatClampNeg then none
    else if (List.range n.toNatClampNeg).all (fun i => jm_fit S 5 (q0.2.2 (sp.toNatClampNeg + i))) = true then some (va_up S.1 q1.1 (some (.inl (5, q1.2.1, .inr (va_cpy q0.2.2 q1.2.2 sp.toNatClampNeg dp.toNatClampNeg n.toNatClampNeg)))), S.2) else none
  | _, _ => none
/-- a cast to a class of ours -/
def jm_ck (r : Option Nat) (ci : Nat) (S : jm_S) : Option Unit := match r with
  | none => some ()
  | some _ => match jm_ob S r ci with
    | none => none
    | some _ => some ()
def jm_t0 (S : jm_S) : Option (Option Nat) := some (some S.2.2.2)
