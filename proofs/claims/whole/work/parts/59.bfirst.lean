/-! ===== the first memory as numbers and lists ===== -/
/-- offset by kind and place -/
def mx (i : Nat) : Nat := if i ≤ 4 then i - 1 else if i ≤ 19 then i - 5 else if i = 21 then 15 else if i ≤ 24 then i - 7 else i - 8
def ofs (k i : Nat) : Nat := match k with
  | 0 => 0
  | 1 => 1
  | 2 => 19 + 16 * i
  | 3 => if i = 5 then 5 else 21 + 16 * i
  | 4 => if i = 5 then 6 else 22 + 16 * i
  | 5 => if 60 ≤ i then 7 + (i - 60) else 23 + 16 * (i / 12) + i % 12
  | 6 => if i = 5 then 4 else 20 + 16 * i
  | 9 => 2
  | 10 => 99 + 2 * i
  | 11 => 100 + 2 * i
  | 12 => 3
  | 20 => 111
  | 21 => 112 + mx i
  | _ => 0
/-- kind and place by offset -/
def tgo (o : Nat) : Option (Nat × Nat) := if o = 0 then some (0, 0) else if o = 1 then some (1, 0) else if o = 2 then some (9, 0) else if o = 3 then some (12, 0) else if o = 4 then some (6, 5) else if o = 5 then some (3, 5) else if o = 6 then some (4, 5) else if o < 19 then some (5, 60 + (o - 7)) else if o < 99 then (if (o - 19) % 16 = 0 then some (2, (o - 19) / 16) else if (o - 19) % 16 = 1 then some (6, (o - 19) / 16) else if (o - 19) % 16 = 2 then some (3, (o - 19) / 16) else if (o - 19) % 16 = 3 then some (4, (o - 19) / 16) else some (5, 12 * ((o - 19) / 16) + ((o - 19) % 16 - 4))) else if o < 111 then (if (o - 99) % 2 = 0 then some (10, (o - 99) / 2) else some (11, (o - 99) / 2)) else if o = 111 then some (20, 0) else if o < 133 then some (21, xm (o - 112)) else none
def kfr (k : Nat) : Bool := k == 8 || k == 13 || k == 99
def kt0 (k : Nat) : Bool := k == 7 || k == 14
def cF (n0 t0 : Nat) : CX := (fun k i => if kfr k = true then i else if kt0 k = true then t0 else n0 + ofs k i, fun a => if a = t0 then some (14, 0) else if a < n0 then none else tgo (a - n0), fun _ => 0, fun _ => 0, fun _ => jm_fz, n0 + 133, 1951, t0)
def lF : LG := fun _ _ => none
def zF : ZZ := fun k i => match k with
  | 0 => if i = 4 then 3 else if i = 6 then nI 4294967288 else 0
  | 1 => if i < 3 then 1 else 0
  | 5 => -1
  | 9 => 1
  | _ => 0
def wF : ZZ := fun k _ => match k with
  | 0 => 3
  | _ => 0
theorem tgo_b : ∀ o, o < 133 → (match tgo o with | none => false | some q => ofs q.1 q.2 == o && qk q.1 q.2 && !kfr q.1 && !kt0 q.1) = true := by decide +kernel
theorem tgo_n {o : Nat} (h : 133 ≤ o) : tgo o = none := by
  unfold tgo
  rw [if_neg (by omega), if_neg (by omega), if_neg (by omega), if_neg (by omega), if_neg (by omega), if_neg (by omega), if_neg (by omega), if_neg (by omega), if_neg (by omega), if_neg (by omega), if_neg (by omega), if_neg (by omega)]
theorem qx_b : ∀ k, k < 22 → ∀ i, i < 72 → (!qx k i || (k == 14 && i == 0) || (tgo (ofs k i) == some (k, i) && !kfr k && !kt0 k)) = true := by decide +kernel
theorem qx_r {k i : Nat} (h : qx k i = true) : k < 22 ∧ i < 72 := by
  unfold qx at h
  simp only [Bool.or_eq_true, Bool.and_eq_true, beq_iff_eq, decide_eq_true_eq] at h
  omega
section BF
variable {n0 t0 : Nat}
theorem cF_t {o : Nat} (ht : t0 < n0) : (cF n0 t0).2.1 (n0 + o) = tgo o := by
  show (if n0 + o = t0 then _ else if n0 + o < n0 then _ else tgo (n0 + o - n0)) = _
  rw [if_neg (by omega), if_neg (by omega), Nat.add_sub_cancel_left]
theorem cF_a {k i : Nat} (h1 : kfr k = false) (h2 : kt0 k = false) : (cF n0 t0).1 k i = n0 + ofs k i := by
  show (if kfr k = true then i else if kt0 k = true then t0 else n0 + ofs k i) = _
  rw [h1, h2]; rfl
theorem qW_F (ht : t0 < n0) : qW (cF n0 t0) lF := by
  refine ⟨fun a q h => ?_, fun a => ⟨rfl, rfl, rfl⟩, fun k i h => ?_, fun i hi => Or.inl ⟨rfl, rfl⟩, rfl, fun i j a hi h => (nomatch h), fun j a h => (nomatch h)⟩
  · by_cases h0 : a = t0
    · subst h0
      have e : (cF n0 a).2.1 a = some (14, 0) := if_pos rfl
      rw [e] at h
      have hq := (Option.some.inj h).symm
      subst hq
      exact ⟨show a < n0 + 133 by omega, rfl, rfl⟩
    · by_cases h1 : a < n0
      · have e : (cF n0 t0).2.1 a = none := by
          show (if a = t0 then _ else if a < n0 then _ else _) = _
          rw [if_neg h0, if_pos h1]
        rw [e] at h
        exact nomatch h
      · obtain ⟨o, rfl⟩ : ∃ o, a = n0 + o := ⟨a - n0, by omega⟩
        rw [cF_t ht] at h
        by_cases h2 : o < 133
        · have hb := tgo_b o h2
          rw [h] at hb
          simp only [Bool.and_eq_true, beq_iff_eq, Bool.not_eq_true'] at hb
          obtain ⟨⟨⟨b1, b2⟩, b3⟩, b4⟩ := hb
          exact ⟨show n0 + o < n0 + 133 by omega, by rw [cF_a b3 b4, b1], b2⟩
        · rw [tgo_n (by omega)] at h
          exact nomatch h
  · obtain ⟨r1, r2⟩ := qx_r h
    have hb := qx_b k r1 i r2
    rw [h] at hb
    simp only [Bool.not_true, Bool.false_or, Bool.or_eq_true, Bool.and_eq_true, beq_iff_eq, Bool.not_eq_true'] at hb
    rcases hb with ⟨rfl, rfl⟩ | ⟨⟨b1, b2⟩, b3⟩
    · exact if_pos rfl
    · rw [cF_a b2 b3, cF_t ht, b1]
theorem r_nd {i : Nat} (hi : i < 5) : (fun j => if j < 12 then some (n0 + (19 + 16 * i + 2 + 2 + j)) else none) = (fun j => if j < 12 then some ((cF n0 t0).1 5 (12 * i + j)) else none) := by
  funext j
  by_cases h : j < 12
  · rw [if_pos h, if_pos h, cF_a rfl rfl]
    unfold ofs
    simp only []
    rw [if_neg (by omega)]
    congr 1
    omega
  · rw [if_neg h, if_neg h]
theorem r_nd5 : (fun j => if j < 12 then some (n0 + (5 + 2 + j)) else none) = (fun j => if j < 12 then some ((cF n0 t0).1 5 (12 * 5 + j)) else none) := by
  funext j
  by_cases h : j < 12
  · rw [if_pos h, if_pos h, cF_a rfl rfl]
    unfold ofs
    simp only []
    rw [if_pos (by omega)]
    congr 1
    omega
  · rw [if_neg h, if_neg h]
theorem r_la {i : Nat} : (fun _ => 0 : Nat → Int32) = (fun j => if j < 8 then zF 11 (8 * i + j) else 0) := by
  funext j
  by_cases h : j < 8
  · rw [if_pos h]; rfl
  · rw [if_neg h]
theorem cF_c : ∀ o, tM n0 t0 o = (match tgo o with | none => none | some q => some (cel (cF n0 t0) lF zF wF q.1 q.2)) := by
  intro o
  match o with
  | 0 =>
    show _ = some (cel (cF n0 t0) lF zF wF 0 0)
    unfold cel
    rw [if_pos rfl, if_pos (show zF 0 6 < 0 by decide +kernel)]
    rfl
  | 1 => exact rfl
  | 2 => exact rfl
  | 3 => exact rfl
  | 4 => exact rfl
  | 5 => exact rfl
  | 6 => exact congrArg (fun g => (some (.inl (2, 12, .inr g)) : Option jm_E)) r_nd5
  | 7 => exact rfl
  | 8 => exact rfl
  | 9 => exact rfl
  | 10 => exact rfl
  | 11 => exact rfl
  | 12 => exact rfl
  | 13 => exact rfl
  | 14 => exact rfl
  | 15 => exact rfl
  | 16 => exact rfl
  | 17 => exact rfl
  | 18 => exact rfl
  | 19 => exact rfl
  | 20 => exact rfl
  | 21 => exact rfl
  | 22 => exact congrArg (fun g => (some (.inl (2, 12, .inr g)) : Option jm_E)) (r_nd (i := 0) (by omega))
  | 23 => exact rfl
  | 24 => exact rfl
  | 25 => exact rfl
  | 26 => exact rfl
  | 27 => exact rfl
  | 28 => exact rfl
  | 29 => exact rfl
  | 30 => exact rfl
  | 31 => exact rfl
  | 32 => exact rfl
  | 33 => exact rfl
  | 34 => exact rfl
  | 35 => exact rfl
  | 36 => exact rfl
  | 37 => exact rfl
  | 38 => exact congrArg (fun g => (some (.inl (2, 12, .inr g)) : Option jm_E)) (r_nd (i := 1) (by omega))
  | 39 => exact rfl
  | 40 => exact rfl
  | 41 => exact rfl
  | 42 => exact rfl
  | 43 => exact rfl
  | 44 => exact rfl
  | 45 => exact rfl
  | 46 => exact rfl
  | 47 => exact rfl
  | 48 => exact rfl
  | 49 => exact rfl
  | 50 => exact rfl
  | 51 => exact rfl
  | 52 => exact rfl
  | 53 => exact rfl
  | 54 => exact congrArg (fun g => (some (.inl (2, 12, .inr g)) : Option jm_E)) (r_nd (i := 2) (by omega))
  | 55 => exact rfl
  | 56 => exact rfl
  | 57 => exact rfl
  | 58 => exact rfl
  | 59 => exact rfl
  | 60 => exact rfl
  | 61 => exact rfl
  | 62 => exact rfl
  | 63 => exact rfl
  | 64 => exact rfl
  | 65 => exact rfl
  | 66 => exact rfl
  | 67 => exact rfl
  | 68 => exact rfl
  | 69 => exact rfl
  | 70 => exact congrArg (fun g => (some (.inl (2, 12, .inr g)) : Option jm_E)) (r_nd (i := 3) (by omega))
  | 71 => exact rfl
  | 72 => exact rfl
  | 73 => exact rfl
  | 74 => exact rfl
  | 75 => exact rfl
  | 76 => exact rfl
  | 77 => exact rfl
  | 78 => exact rfl
  | 79 => exact rfl
  | 80 => exact rfl
  | 81 => exact rfl
  | 82 => exact rfl
  | 83 => exact rfl
  | 84 => exact rfl
  | 85 => exact rfl
  | 86 => exact congrArg (fun g => (some (.inl (2, 12, .inr g)) : Option jm_E)) (r_nd (i := 4) (by omega))
  | 87 => exact rfl
  | 88 => exact rfl
  | 89 => exact rfl
  | 90 => exact rfl
  | 91 => exact rfl
  | 92 => exact rfl
  | 93 => exact rfl
  | 94 => exact rfl
  | 95 => exact rfl
  | 96 => exact rfl
  | 97 => exact rfl
  | 98 => exact rfl
  | 99 => exact rfl
  | 100 => exact congrArg (fun g => (some (.inl (0, 8, .inl g)) : Option jm_E)) (r_la (i := 0))
  | 101 => exact rfl
  | 102 => exact congrArg (fun g => (some (.inl (0, 8, .inl g)) : Option jm_E)) (r_la (i := 1))
  | 103 => exact rfl
  | 104 => exact congrArg (fun g => (some (.inl (0, 8, .inl g)) : Option jm_E)) (r_la (i := 2))
  | 105 => exact rfl
  | 106 => exact congrArg (fun g => (some (.inl (0, 8, .inl g)) : Option jm_E)) (r_la (i := 3))
  | 107 => exact rfl
  | 108 => exact congrArg (fun g => (some (.inl (0, 8, .inl g)) : Option jm_E)) (r_la (i := 4))
  | 109 => exact rfl
  | 110 => exact congrArg (fun g => (some (.inl (0, 8, .inl g)) : Option jm_E)) (r_la (i := 5))
  | 111 => exact rfl
  | 112 => exact rfl
  | 113 => exact rfl
  | 114 => exact rfl
  | 115 => exact rfl
  | 116 => exact rfl
  | 117 => exact rfl
  | 118 => exact rfl
  | 119 => exact rfl
  | 120 => exact rfl
  | 121 => exact rfl
  | 122 => exact rfl
  | 123 => exact rfl
  | 124 => exact rfl
  | 125 => exact rfl
  | 126 => exact rfl
  | 127 => exact rfl
  | 128 => exact rfl
  | 129 => exact rfl
  | 130 => exact rfl
  | 131 => exact rfl
  | 132 => exact rfl
  | k + 133 =>
    rw [tgo_n (by omega)]
    unfold tM
    rw [if_neg (by omega), if_neg (by omega), if_neg (by omega)]
theorem qB_F (ht : t0 < n0) : qB n0 t0 (tM n0 t0) 133 1951 = qE (cF n0 t0) lF zF wF := by
  refine Prod.ext ?_ rfl
  funext a
  show (if a = t0 then some jm_fz else if a < n0 then none else tM n0 t0 (a - n0)) = qM (cF n0 t0) lF zF wF a
  unfold qM
  by_cases h0 : a = t0
  · have e : (cF n0 t0).2.1 a = some (14, 0) := if_pos h0
    rw [if_pos h0, e]
    rfl
  · by_cases h1 : a < n0
    · have e : (cF n0 t0).2.1 a = none := by
        show (if a = t0 then _ else if a < n0 then _ else _) = _
        rw [if_neg h0, if_pos h1]
      rw [if_neg h0, if_pos h1, e]
    · have e : (cF n0 t0).2.1 a = tgo (a - n0) := by
        show (if a = t0 then _ else if a < n0 then _ else _) = _
        rw [if_neg h0, if_neg h1]
      rw [if_neg h0, if_neg h1, e]
      exact cF_c (a - n0)
end BF
