/-! ===== the memory of class and reference as numbers and lists ===== -/
/-- a table of numbers, one changed -/
def u2 (z : Nat → Nat → Int32) (k i : Nat) (v : Int32) : Nat → Nat → Int32 := fun k' i' => if k' = k ∧ i' = i then v else z k' i'
theorem u2_s (z : Nat → Nat → Int32) (k i : Nat) (v : Int32) : u2 z k i v k i = v := by simp [u2]
theorem u2_k {z : Nat → Nat → Int32} {k i k' : Nat} {v : Int32} (h : k' ≠ k) : u2 z k i v k' = z k' := by
  funext i'
  simp [u2, h]
theorem u2_i {z : Nat → Nat → Int32} {k i i' : Nat} {v : Int32} (h : i' ≠ i) : u2 z k i v k i' = z k i' := by simp [u2, h]
/-- addresses by kind and place, kind and place by address, the lists' room, the watches' sessions, what nobody reaches any more, the next address, the slots, the shared empty row -/
abbrev CX : Type := (Nat → Nat → Nat) × (Nat → Option (Nat × Nat)) × (Nat → Nat) × (Nat → Nat) × (Nat → jm_E) × Nat × Nat × Nat
abbrev LG : Type := Nat → Nat → Option Nat
abbrev ZZ : Type := Nat → Nat → Int32
/-- the reference's rows: kind and length by the field's place -/
def mt (k : Nat) : Nat := if k = 1 ∨ k = 2 then 1 else 0
def ml (k : Nat) : Nat := if k < 10 then 5 else if k < 15 then 200 else if k = 15 then 6 else if k < 20 then 72 else if k = 21 then 4 else if k = 23 then 6 else if k = 24 then 48 else 10
/-- the reference's fields that are numbers -/
def mq (i : Nat) : Bool := i == 0 || i == 5 || i == 6 || i == 7 || i == 8 || i == 20 || i == 22 || i == 25
def cel (c : CX) (lg : LG) (z w : ZZ) (k i : Nat) : jm_E := match k with
  | 0 => if i = 0 then .inr (8, [.inr (some (c.1 1 0)), .inr (some (c.1 9 0)), .inr (some (c.1 12 0)), .inr (some (c.1 3 5)), .inl (z 0 4), .inl (z 0 5), .inr (if z 0 6 < 0 then none else some (c.1 2 (z 0 6).toNatClampNeg)), .inl (z 0 7), .inl (z 0 8), .inl (z 0 9), .inl (z 0 10), .inl (z 0 11)]) else jm_fz
  | 1 => .inl (3, 5, .inr (fun j => if j < 5 then some (c.1 2 j) else none))
  | 2 => .inr (2, [.inl (nI i), .inr (some (c.1 3 i)), .inr (some (c.1 6 i)), .inl (z 1 i), .inl (z 2 i), .inl (z 3 i), .inl (z 4 i)])
  | 3 => .inr (5, [.inl (if i = 5 then -1 else nI i), .inr (some (c.1 4 i))])
  | 4 => .inl (2, 12, .inr (fun j => if j < 12 then some (c.1 5 (12 * i + j)) else none))
  | 5 => .inr (1, [.inl (z 5 i), .inl (z 6 i), .inl (z 7 i), .inl (z 8 i)])
  | 6 => .inr (0, [.inl (z 9 i), .inr (some (c.1 7 i)), .inl (z 20 i)])
  | 7 => .inl (5, c.2.2.1 i, .inr (lg i))
  | 8 => .inr (4, [.inl (z 12 i), .inl (z 13 i), .inl (z 14 i), .inl (z 15 i), .inl (z 16 i)])
  | 9 => .inl (4, 6, .inr (fun j => if j < 6 then some (c.1 10 j) else none))
  | 10 => .inr (3, [.inl (nI i), .inl (z 10 i), .inr (some (c.1 11 i))])
  | 11 => .inl (0, 8, .inl (fun j => if j < 8 then z 11 (8 * i + j) else 0))
  | 12 => .inr (7, [.inr (some (c.1 6 5))])
  | 13 => .inr (6, [.inl (z 17 i), .inr (some (c.1 10 (c.2.2.2.1 i))), .inl (z 19 i)])
  | 14 => jm_fz
  | 20 => if i = 0 then .inr (9, [.inl (w 0 0), .inr (some (c.1 21 1)), .inr (some (c.1 21 2)), .inr (some (c.1 21 3)), .inr (some (c.1 21 4)), .inl (w 5 0), .inl (w 6 0), .inl (w 7 0), .inl (w 8 0), .inr (some (c.1 21 9)), .inr (some (c.1 21 10)), .inr (some (c.1 21 11)), .inr (some (c.1 21 12)), .inr (some (c.1 21 13)), .inr (some (c.1 21 14)), .inr (some (c.1 21 15)), .inr (some (c.1 21 16)), .inr (some (c.1 21 17)), .inr (some (c.1 21 18)), .inr (some (c.1 21 19)), .inl (w 20 0), .inr (some (c.1 21 21)), .inl (w 22 0), .inr (some (c.1 21 23)), .inr (some (c.1 21 24)), .inl (w 25 0), .inr (some (c.1 21 26)), .inr (some (c.1 21 27)), .inr (some (c.1 21 28))]) else jm_fz
  | 21 => if mq i = true then jm_fz else .inl (mt i, ml i, .inl (w i))
  | 99 => c.2.2.2.2.1 i
  | _ => jm_fz
def qM (c : CX) (lg : LG) (z w : ZZ) : jm_M := fun a => match c.2.1 a with
  | none => none
  | some q => some (cel c lg z w q.1 q.2)
def qE (c : CX) (lg : LG) (z w : ZZ) : jm_S := (qM c lg z w, c.2.2.2.2.2)
def qx (k i : Nat) : Bool := (k == 0 && i == 0) || (k == 1 && i == 0) || (k == 2 && decide (i < 5)) || (k == 3 && decide (i < 6)) || (k == 4 && decide (i < 6)) || (k == 5 && decide (i < 72)) || (k == 6 && decide (i < 6)) || (k == 9 && i == 0) || (k == 10 && decide (i < 6)) || (k == 11 && decide (i < 6)) || (k == 12 && i == 0) || (k == 14 && i == 0) || (k == 20 && i == 0) || (k == 21 && decide (i < 29) && !mq i)
def qk (k i : Nat) : Bool := qx k i || (k == 7 && decide (i < 6)) || k == 8 || k == 13 || k == 99
/-- kinds, places and addresses fit -/
def qW (c : CX) (lg : LG) : Prop :=
  (∀ a q, c.2.1 a = some q → a < c.2.2.2.2.2.1 ∧ c.1 q.1 q.2 = a ∧ qk q.1 q.2 = true) ∧ (∀ a, c.1 8 a = a ∧ c.1 13 a = a ∧ c.1 99 a = a) ∧ (∀ k i, qx k i = true → c.2.1 (c.1 k i) = some (k, i)) ∧
  (∀ i, i < 6 → ((c.2.2.1 i = 0 ∧ c.1 7 i = c.2.2.2.2.2.2.2) ∨ (0 < c.2.2.1 i ∧ c.2.1 (c.1 7 i) = some (7, i)))) ∧ c.1 14 0 = c.2.2.2.2.2.2.2 ∧ (∀ i j a, i < 5 → lg i j = some a → c.2.1 a = some (8, a)) ∧ (∀ j a, lg 5 j = some a → c.2.1 a = some (13, a))
theorem qE_at {c : CX} {lg : LG} {z w : ZZ} {a k i : Nat} (h : c.2.1 a = some (k, i)) : (qE c lg z w).1 a = some (cel c lg z w k i) := by
  show qM c lg z w a = _
  simp only [qM, h]
theorem qE_set {c : CX} {lg lg' : LG} {z z' w w' : ZZ} {a k i : Nat} {e : jm_E} (hW : qW c lg) (h : c.2.1 a = some (k, i)) (he : cel c lg' z' w' k i = e) (ho : ∀ k' i', ¬ (k' = k ∧ i' = i) → cel c lg' z' w' k' i' = cel c lg z w k' i') : (va_up (qE c lg z w).1 a (some e), (qE c lg z w).2) = qE c lg' z' w' := by
  refine Prod.ext ?_ rfl
  funext b
  show va_up (qM c lg z w) a (some e) b = qM c lg' z' w' b
  by_cases hb : b = a
  · subst hb
    simp only [va_up, if_true, qM, h, he]
  · simp only [va_up, if_neg hb, qM]
    cases hq : c.2.1 b with
    | none => rfl
    | some q =>
      have h1 := (hW.1 b q hq).2.1
      have h2 := (hW.1 a _ h).2.1
      have hne : ¬ (q.1 = k ∧ q.2 = i) := by
        rintro ⟨e1, e2⟩
        exact hb (by rw [← h1, e1, e2]; exact h2)
      simp only [ho q.1 q.2 hne]
theorem qW.none {c : CX} {lg : LG} (hW : qW c lg) : c.2.1 c.2.2.2.2.2.1 = none := by
  cases h : c.2.1 c.2.2.2.2.2.1 with
  | none => rfl
  | some q => exact absurd (hW.1 _ q h).1 (Nat.lt_irrefl _)
/-- a cell is made -/
theorem qE_new {c c' : CX} {lg lg' : LG} {z z' w w' : ZZ} {k i n : Nat} {e : jm_E} (hW : qW c lg) (h1 : c'.2.1 = va_up c.2.1 c.2.2.2.2.2.1 (some (k, i))) (hn : c'.2.2.2.2.2 = (c.2.2.2.2.2.1 + 1, c.2.2.2.2.2.2.1 + n, c.2.2.2.2.2.2.2)) (he : cel c' lg' z' w' k i = e) (ho : ∀ a k' i', c.2.1 a = some (k', i') → cel c' lg' z' w' k' i' = cel c lg z w k' i') : (va_up (qE c lg z w).1 (qE c lg z w).2.1 (some e), (qE c lg z w).2.1 + 1, (qE c lg z w).2.2.1 + n, (qE c lg z w).2.2.2) = qE c' lg' z' w' := by
  refine Prod.ext ?_ hn.symm
  funext b
  show va_up (qM c lg z w) c.2.2.2.2.2.1 (some e) b = qM c' lg' z' w' b
  by_cases hb : b = c.2.2.2.2.2.1
  · subst hb
    simp only [va_up, if_true, qM, h1, he]
  · simp only [va_up, if_neg hb, qM, h1]
    cases hq : c.2.1 b with
    | none => rfl
    | some q => simp only [ho b q.1 q.2 hq]
/-! one step of a program -/
theorem jr_rd {α β : Type} {g : jm_S → Option α} {f : α → jm_P β} {S : jm_S} {v : α} (h : g S = some v) : jm_rd g f S = f v S := by unfold jm_rd; rw [h]
theorem jr_wr {β : Type} {g : jm_S → Option jm_S} {f : jm_P β} {S S1 : jm_S} (h : g S = some S1) : jm_wr g f S = f S1 := by unfold jm_wr; rw [h]
theorem jr_bd {α β : Type} {x : jm_P α} {f : α → jm_P β} {S S1 : jm_S} {v : α} (h : x S = some (v, S1)) : jm_bd x f S = f v S1 := by unfold jm_bd; rw [h]
theorem jr_t {α : Type} {c : Prop} [Decidable c] {x y : jm_P α} {S : jm_S} (h : c) : (if c then x else y) S = x S := by rw [if_pos h]
theorem jr_f {α : Type} {c : Prop} [Decidable c] {x y : jm_P α} {S : jm_S} (h : ¬ c) : (if c then x else y) S = y S := by rw [if_neg h]
theorem jr_if {α : Type} {c : Prop} [Decidable c] {x y : jm_P α} {S : jm_S} : (if c then x else y) S = if c then x S else y S := by split <;> rfl
theorem jr_ob {c : CX} {lg : LG} {z w : ZZ} {a k i ci : Nat} {fs : List jm_V} (h : c.2.1 a = some (k, i)) (he : cel c lg z w k i = .inr (ci, fs)) : jm_ob (qE c lg z w) (some a) ci = some (a, fs) := by
  unfold jm_ob
  simp only [qE_at h, he, if_true]
theorem jr_gI {c : CX} {lg : LG} {z w : ZZ} {a k i ci n : Nat} {fs : List jm_V} {v : Int32} (h : c.2.1 a = some (k, i)) (he : cel c lg z w k i = .inr (ci, fs)) (hv : fs[n]? = some (.inl v)) : jm_gI (some a) ci n (qE c lg z w) = some v := by
  unfold jm_gI
  simp only [jr_ob h he, hv]
theorem jr_gR {c : CX} {lg : LG} {z w : ZZ} {a k i ci n : Nat} {fs : List jm_V} {v : Option Nat} (h : c.2.1 a = some (k, i)) (he : cel c lg z w k i = .inr (ci, fs)) (hv : fs[n]? = some (.inr v)) : jm_gR (some a) ci n (qE c lg z w) = some v := by
  unfold jm_gR
  simp only [jr_ob h he, hv]
theorem jr_o {c : CX} {lg : LG} {z w : ZZ} {a k i ci : Nat} {fs : List jm_V} (h : c.2.1 a = some (k, i)) (he : cel c lg z w k i = .inr (ci, fs)) : jm_o (some a) ci (qE c lg z w) = some a := by
  unfold jm_o
  simp only [jr_ob h he]
theorem jr_ck {c : CX} {lg : LG} {z w : ZZ} {a k i ci : Nat} {fs : List jm_V} (h : c.2.1 a = some (k, i)) (he : cel c lg z w k i = .inr (ci, fs)) : jm_ck (some a) ci (qE c lg z w) = some () := by
  unfold jm_ck
  simp only [jr_ob h he]
theorem jr_p {c : CX} {lg lg' : LG} {z z' w w' : ZZ} {a k i ci n : Nat} {fs : List jm_V} {v : jm_V} (hW : qW c lg) (h : c.2.1 a = some (k, i)) (he : cel c lg z w k i = .inr (ci, fs)) (hn : n < fs.length) (he' : cel c lg' z' w' k i = .inr (ci, fs.set n v)) (ho : ∀ k' i', ¬ (k' = k ∧ i' = i) → cel c lg' z' w' k' i' = cel c lg z w k' i') : jm_p (some a) ci n v (qE c lg z w) = some (qE c lg' z' w') := by
  unfold jm_p
  simp only [jr_ob h he, if_pos hn]
  rw [qE_set hW h he' ho]
theorem jr_ai {c : CX} {lg : LG} {z w : ZZ} {a k i t n : Nat} {f : Nat → Int32} (h : c.2.1 a = some (k, i)) (he : cel c lg z w k i = .inl (t, n, .inl f)) : jm_ai (qE c lg z w) (some a) t = some (a, n, f) := by
  unfold jm_ai
  simp only [qE_at h, he, if_true]
theorem jr_aq {c : CX} {lg : LG} {z w : ZZ} {a k i t n : Nat} {f : Nat → Option Nat} (h : c.2.1 a = some (k, i)) (he : cel c lg z w k i = .inl (t, n, .inr f)) : jm_aq (qE c lg z w) (some a) t = some (a, n, f) := by
  unfold jm_aq
  simp only [qE_at h, he, if_true]
theorem jr_in {i n : Nat} (h : i < n) (hn : n < 2 ^ 31) : ¬ (nI i < 0 ∨ n ≤ (nI i).toNatClampNeg) := nI_in h hn
theorem jr_gi {c : CX} {lg : LG} {z w : ZZ} {a k i t n j : Nat} {f : Nat → Int32} (h : c.2.1 a = some (k, i)) (he : cel c lg z w k i = .inl (t, n, .inl f)) (hj : j < n) (hn : n < 2 ^ 31) : jm_gi (some a) t (nI j) (qE c lg z w) = some (f j) := by
  unfold jm_gi
  simp only [jr_ai h he, if_neg (jr_in hj hn)]
  rw [nI_clamp (by omega)]
theorem jr_gq {c : CX} {lg : LG} {z w : ZZ} {a k i t n j : Nat} {f : Nat → Option Nat} (h : c.2.1 a = some (k, i)) (he : cel c lg z w k i = .inl (t, n, .inr f)) (hj : j < n) (hn : n < 2 ^ 31) : jm_gq (some a) t (nI j) (qE c lg z w) = some (f j) := by
  unfold jm_gq
  simp only [jr_aq h he, if_neg (jr_in hj hn)]
  rw [nI_clamp (by omega)]
theorem jr_si {c : CX} {lg lg' : LG} {z z' w w' : ZZ} {a k i t n j : Nat} {f : Nat → Int32} {x : Int32} (hW : qW c lg) (h : c.2.1 a = some (k, i)) (he : cel c lg z w k i = .inl (t, n, .inl f)) (hj : j < n) (hn : n < 2 ^ 31) (he' : cel c lg' z' w' k i = .inl (t, n, .inl (upd f j x))) (ho : ∀ k' i', ¬ (k' = k ∧ i' = i) → cel c lg' z' w' k' i' = cel c lg z w k' i') : jm_si (some a) t (nI j) x (qE c lg z w) = some (qE c lg' z' w') := by
  unfold jm_si
  simp only [jr_ai h he, if_neg (jr_in hj hn)]
  rw [nI_clamp (by omega), qE_set hW h he' ho]
theorem jr_sq {c : CX} {lg lg' : LG} {z z' w w' : ZZ} {a k i t n j : Nat} {f : Nat → Option Nat} {x : Option Nat} (hW : qW c lg) (h : c.2.1 a = some (k, i)) (he : cel c lg z w k i = .inl (t, n, .inr f)) (hj : j < n) (hn : n < 2 ^ 31) (hx : jm_fit (qE c lg z w) t x = true) (he' : cel c lg' z' w' k i = .inl (t, n, .inr (va_up f j x))) (ho : ∀ k' i', ¬ (k' = k ∧ i' = i) → cel c lg' z' w' k' i' = cel c lg z w k' i') : jm_sq (some a) t (nI j) x (qE c lg z w) = some (qE c lg' z' w') := by
  unfold jm_sq
  simp only [jr_aq h he, if_neg (jr_in hj hn), if_pos hx]
  rw [nI_clamp (by omega), qE_set hW h he' ho]
theorem jr_li {c : CX} {lg : LG} {z w : ZZ} {a k i t n : Nat} {f : Nat → Int32} (h : c.2.1 a = some (k, i)) (he : cel c lg z w k i = .inl (t, n, .inl f)) : jm_li (some a) t (qE c lg z w) = some (nI n) := by
  unfold jm_li
  simp only [jr_ai h he]
  rfl
theorem jr_lq {c : CX} {lg : LG} {z w : ZZ} {a k i t n : Nat} {f : Nat → Option Nat} (h : c.2.1 a = some (k, i)) (he : cel c lg z w k i = .inl (t, n, .inr f)) (ht : t ≠ 5 ∨ a ≠ c.2.2.2.2.2.2.2) : jm_lq (some a) t (qE c lg z w) = some (nI n) := by
  unfold jm_lq
  rw [if_neg, jr_aq h he]
  · rfl
  · rintro ⟨h1, h2⟩
    rcases ht with h3 | h3
    · exact h3 h1
    · exact h3 (Option.some.inj h2)
