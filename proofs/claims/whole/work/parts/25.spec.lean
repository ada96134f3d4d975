/-! ===== what both sides speak of: numbers, logs, trees, watches ===== -/
def un (x : Int32) : Nat := x.toBitVec.toNat
theorem nI_un (x : Int32) : nI (un x) = x := by
  apply Int32.toBitVec_inj.mp
  apply BitVec.eq_of_toNat_eq
  exact pk_tn x.toBitVec.isLt
theorem un_nI {n : Nat} (h : n < 2 ^ 32) : un (nI n) = n := pk_tn h
theorem un_lt (x : Int32) : un x < 2 ^ 32 := x.toBitVec.isLt
theorem nI_inj {a b : Nat} (ha : a < 2 ^ 32) (hb : b < 2 ^ 32) : nI a = nI b ↔ a = b :=
  ⟨fun h => by rw [← un_nI ha, ← un_nI hb, h], fun h => by rw [h]⟩
/-- identifier, kind, path, data, session -/
abbrev TX : Type := Nat × Nat × Nat × Nat × Nat
/-- path, data, version, owner -/
abbrev ND : Type := Nat × Nat × Nat × Nat
/-- server, session, path -/
abbrev WT : Type := Nat × Nat × Nat
abbrev NN : Type := Nat → Nat → Nat
def n2 (z : NN) (k i v : Nat) : NN := fun k' i' => if k' = k ∧ i' = i then v else z k' i'
theorem n2_s (z : NN) (k i v : Nat) : n2 z k i v k i = v := by simp [n2]
theorem n2_k {z : NN} {k i k' v : Nat} (h : k' ≠ k) : n2 z k i v k' = z k' := by
  funext i'
  simp [n2, h]
theorem n2_i {z : NN} {k i i' v : Nat} (h : i' ≠ i) : n2 z k i v k i' = z k i' := by simp [n2, h]
theorem n2_u {z : ZZ} {nn : NN} {k i k' i' v : Nat} (h : z k' i' = nI (nn k' i')) : u2 z k i (nI v) k' i' = nI (n2 nn k i v k' i') := by
  unfold u2 n2
  split <;> simp_all
def txof (z : ZZ) (a : Nat) : TX := (un (z 12 a), un (z 13 a), un (z 14 a), un (z 15 a), un (z 16 a))
def wtof (c : CX) (z : ZZ) (a : Nat) : WT := (un (z 17 a), c.2.2.2.1 a, un (z 19 a))
def slot (z : ZZ) (j : Nat) : Option ND := if z 5 j = -1 then none else some (un (z 5 j), un (z 6 j), un (z 7 j), un (z 8 j))
def sl (z : ZZ) (i j n : Nat) : List ND := (List.range' j n).filterMap (fun k => slot z (12 * i + k))
def slots (z : ZZ) (i : Nat) : List ND := sl z i 0 12
def dX (k i : Nat) : Bool := (k == 0 && decide (4 ≤ i) && decide (i < 12)) || (decide (1 ≤ k) && decide (k ≤ 4) && decide (i < 5)) || (k == 10 && decide (i < 6)) || (k == 11 && decide (i < 48))
/-- the class's memory holds these -/
def RX (c : CX) (lg : LG) (z : ZZ) (nn : NN) (lo : Nat → List TX) (tr : Nat → List ND) (wt : List WT) : Prop :=
  qW c lg ∧ (∀ k i, dX k i = true → z k i = nI (nn k i)) ∧ (∃ AL : Nat → List Nat, (∀ i, i < 6 → LI c lg z i (AL i)) ∧ (∀ i, i < 5 → (AL i).map (txof z) = lo i) ∧ (AL 5).map (wtof c z) = wt) ∧ (∀ i, i < 6 → (slots z i).Perm (tr i))
/-- three bits a name to four figures to the base 7 -/
def p7 (p : Nat) : Nat := if p < 8 then p * 343 else if p < 64 then p / 8 * 343 + p % 8 * 49 else if p < 512 then p / 64 * 343 + p / 8 % 8 * 49 + p % 8 * 7 else p / 512 * 343 + p / 64 % 8 * 49 + p / 8 % 8 * 7 + p % 8
def okp (p : Nat) : Bool := decide (p < 4096) && decide (p % 8 ≤ 6) && decide (p / 8 % 8 ≤ 6) && decide (p / 64 % 8 ≤ 6) && decide (p / 512 ≤ 6) && (decide (p < 8) || decide (p % 8 ≠ 0)) && (decide (p < 64) || decide (p / 8 % 8 ≠ 0)) && (decide (p < 512) || decide (p / 64 % 8 ≠ 0))
/-- the class's rank of a path -/
def rk (p : Nat) : Nat := if p < 8 then p * 512 else if p < 64 then p * 64 else if p < 512 then p * 8 else p
/-- the parent of a code to the base 7 -/
def par7 (q : Nat) : Nat := if q % 7 ≠ 0 then q - q % 7 else if q / 7 % 7 ≠ 0 then q - q / 7 % 7 * 7 else if q / 49 % 7 ≠ 0 then q - q / 49 % 7 * 49 else 0
def q8 (q : Nat) : Nat := if q % 343 = 0 then q / 343 else if q % 49 = 0 then q / 343 * 8 + q / 49 % 7 else if q % 7 = 0 then q / 343 * 64 + q / 49 % 7 * 8 + q / 7 % 7 else q / 343 * 512 + q / 49 % 7 * 64 + q / 7 % 7 * 8 + q % 7
/-- figures to the base 7 as figures to the base 8 -/
def r8 (q : Nat) : Nat := q / 343 * 512 + q / 49 % 7 * 64 + q / 7 % 7 * 8 + q % 7
def okAll (p : Nat) : Bool := !okp p || (decide (q8 (p7 p) = p) && decide (p7 p < 2401) && decide (r8 (p7 p) = rk p) && decide (par7 (p7 p) = p7 (p / 8)) && okp (p / 8) && (decide (p = 0) == decide (p7 p = 0)))
theorem okAll_all : (List.range 4096).all okAll = true := by decide +kernel
theorem okp_lt {p : Nat} (h : okp p = true) : p < 4096 := by
  simp only [okp, Bool.and_eq_true, decide_eq_true_eq] at h
  omega
theorem ok_all {p : Nat} (h : okp p = true) : q8 (p7 p) = p ∧ p7 p < 2401 ∧ r8 (p7 p) = rk p ∧ par7 (p7 p) = p7 (p / 8) ∧ okp (p / 8) = true ∧ (p = 0 ↔ p7 p = 0) := by
  have h1 := List.all_eq_true.mp okAll_all p (List.mem_range.mpr (okp_lt h))
  simp only [okAll, h, Bool.not_true, Bool.false_or, Bool.and_eq_true, decide_eq_true_eq, beq_iff_eq, decide_eq_decide] at h1
  obtain ⟨⟨⟨⟨⟨a, b⟩, d⟩, e⟩, f⟩, g⟩ := h1
  exact ⟨a, b, d, e, f, g⟩
theorem p7_inj {p q : Nat} (hp : okp p = true) (hq : okp q = true) : p7 p = p7 q ↔ p = q :=
  ⟨fun h => by rw [← (ok_all hp).1, ← (ok_all hq).1, h], fun h => by rw [h]⟩
theorem r8_all : (List.range 2400).all (fun q => decide (r8 q < r8 (q + 1))) = true := by decide +kernel
theorem r8_step : ∀ q, q < 2400 → r8 q < r8 (q + 1) := fun q hq => of_decide_eq_true (List.all_eq_true.mp r8_all q (List.mem_range.mpr hq))
theorem r8_mono {a : Nat} : ∀ n, a + n < 2400 → r8 a < r8 (a + n + 1) := by
  intro n
  induction n with
  | zero => exact fun h => r8_step a h
  | succ n ih => exact fun h => Nat.lt_trans (ih (by omega)) (r8_step (a + n + 1) (by omega))
theorem rk_lt {p q : Nat} (hp : okp p = true) (hq : okp q = true) : rk p < rk q ↔ p7 p < p7 q := by
  obtain ⟨-, a1, a2, -⟩ := ok_all hp
  obtain ⟨-, b1, b2, -⟩ := ok_all hq
  rw [← a2, ← b2]
  constructor
  · intro h
    by_cases h1 : p7 q ≤ p7 p
    · exfalso
      by_cases h2 : p7 q = p7 p
      · rw [h2] at h
        exact Nat.lt_irrefl _ h
      · have := r8_mono (a := p7 q) (p7 p - p7 q - 1) (by omega)
        rw [show p7 q + (p7 p - p7 q - 1) + 1 = p7 p by omega] at this
        omega
    · omega
  · intro h
    have := r8_mono (a := p7 p) (p7 q - p7 p - 1) (by omega)
    rw [show p7 p + (p7 q - p7 p - 1) + 1 = p7 q by omega] at this
    exact this
/-! firing, carrying out, replaying -/
def fe (s p x : Nat) : List WT → NN → NN
  | [], nn => nn
  | v :: l, nn => if v.1 = s ∧ v.2.2 = p then fe s p x l (n2 (n2 nn 11 (8 * v.2.1 + nn 10 v.2.1 % 8) x) 10 v.2.1 (nn 10 v.2.1 + 1)) else fe s p x l nn
def wf (s p : Nat) (l : List WT) : List WT := l.filter (fun v => !(v.1 == s && v.2.2 == p))
/-- the first node of a session -/
def fo (ses : Nat) : List ND → Option ND
  | [] => none
  | nd :: l => match fo ses l with
    | none => if nd.2.2.2 = ses then some nd else none
    | some b => if nd.2.2.2 = ses ∧ p7 nd.1 ≤ p7 b.1 then some nd else some b
def wo (p : Nat) (t : List ND) : List ND := t.filter (fun nd => !(nd.1 == p))
/-- closing: the paths that go, in their order -/
def cs (ses : Nat) : Nat → List ND → List Nat
  | 0, _ => []
  | n + 1, t => match fo ses t with
    | none => []
    | some nd => nd.1 :: cs ses n (wo nd.1 t)
def ct (x : TX) (t : List ND) : List ND := match x.2.1 with
  | 0 => (x.2.2.1, x.2.2.2.1, 0, x.2.2.2.2) :: t
  | 1 => t.map (fun nd => if nd.1 = x.2.2.1 then (nd.1, x.2.2.2.1, nd.2.2.1 + 1, nd.2.2.2) else nd)
  | 2 => wo x.2.2.1 t
  | _ => t.filter (fun nd => !(nd.2.2.2 == x.2.2.2.2))
/-- the paths that fire, and how -/
def cf (x : TX) (t : List ND) : List Nat × Nat := match x.2.1 with
  | 0 => ([x.2.2.1], 0)
  | 1 => ([x.2.2.1], 1)
  | 2 => ([x.2.2.1], 2)
  | _ => (cs x.2.2.2.2 12 t, 2)
def fes (s x : Nat) : List Nat → NN × List WT → NN × List WT
  | [], q => q
  | p :: l, q => fes s x l (fe s p x q.2 q.1, wf s p q.2)
/-- a transaction comes to tree s -/
def cy (s : Nat) (x : TX) (t : List ND) (q : NN × List WT) : NN × List WT := fes s (10 * x.1 + (cf x t).2) (cf x t).1 q
def rp (l : List TX) : List ND := l.foldl (fun t x => ct x t) []
def TV (t : List ND) : Prop := (t.map (·.1)).Nodup ∧ (∀ nd, nd ∈ t → okp nd.1 = true ∧ nd.1 ≠ 0 ∧ nd.2.2.2 < 2 ^ 32) ∧ t.length ≤ 12
def tv (x : TX) (t : List ND) : Prop := x.1 < 1000000 ∧ okp x.2.2.1 = true ∧ x.2.2.2.2 < 2 ^ 32 ∧ x.2.1 < 4 ∧ (x.2.1 = 0 → t.length < 12 ∧ x.2.2.1 ≠ 0 ∧ ∀ nd, nd ∈ t → nd.1 ≠ x.2.2.1) ∧ ((x.2.1 = 1 ∨ x.2.1 = 2) → ∃ nd, nd ∈ t ∧ nd.1 = x.2.2.1) ∧ (x.2.1 = 3 → x.2.2.2.2 < 6)
def RV (l : List TX) : Prop := ∀ k x, l[k]? = some x → tv x (rp (l.take k))
/-- watches in order: a server, an open session, a path -/
def WV (nn : NN) (wt : List WT) : Prop := wt.length ≤ 10 ∧ ∀ v, v ∈ wt → v.1 < 5 ∧ v.2.1 < nn 0 5 ∧ nn 0 5 ≤ 6 ∧ okp v.2.2 = true
