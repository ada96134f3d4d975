/-! ===== the class is made ===== -/
section BC
variable {n0 t0 : Nat} {T : Nat → Option jm_E} {m s j : Nat} {β : Type}
theorem b_w (ht : t0 < n0) (hj : j < m) (hT : T j = some (.inr (7, [.inr none]))) : fX6_init (n0 + j) (qB n0 t0 T m s) = some ((), qB n0 t0 (va_up (va_up T m (some (.inr (0, [.inl 0, .inr (some t0), .inl 0])))) j (some (.inr (7, [.inr (some (n0 + m))])))) (m + 1) (s + 3)) := by
  unfold fX6_init
  rw [bNN, bN ht]
  refine (jr_bd (b_list ht (va_s _ _ _))).trans ?_
  rw [va_va, bP ht ((va_n (show j ≠ m by omega)).trans hT) (by simp)]
  rfl
/-- before the servers -/
def tA (n0 t0 : Nat) : Nat → Option jm_E := fun a => match a with
  | 0 => some (.inr (8, [.inr (some (n0 + 1)), .inr (some (n0 + 2)), .inr (some (n0 + 3)), .inr (some (n0 + 5)), .inl 0, .inl 0, .inr none, .inl 0, .inl 0, .inl 0, .inl 0, .inl 0]))
  | 1 => some (.inl (3, 5, .inr (fun _ => none)))
  | 2 => some (.inl (4, 6, .inr (fun _ => none)))
  | 3 => some (.inr (7, [.inr (some (n0 + 4))]))
  | 4 => some (.inr (0, [.inl 0, .inr (some t0), .inl 0]))
  | _ => none
def tX0 : Nat → Option jm_E := va_up (fun _ => none) 0 (some (.inr (8, [.inr none, .inr none, .inr none, .inr none, .inl 0, .inl 0, .inr none, .inl 0, .inl 0, .inl 0, .inl 0, .inl 0])))
theorem b_xA (ht : t0 < n0) : fX7_init (n0 + 0) (qB n0 t0 tX0 1 12) = fX7_init_46 4096 (n0 + 0) 0 (qB n0 t0 (tP n0 (tA n0 t0) (-1) 5 6 12) 19 89) := by
  unfold fX7_init
  rw [bNN, show (5 : Int32) = nI 5 from rfl, bNq ht (by omega)]
  refine Eq.trans (bP (ci := 8) ht (by exact rfl) (by exact Nat.le_of_ble_eq_true rfl) _) ?_
  rw [show (6 : Int32) = nI 6 from rfl, bNq ht (by omega)]
  refine Eq.trans (bP (ci := 8) ht (by exact rfl) (by exact Nat.le_of_ble_eq_true rfl) _) ?_
  rw [bN ht]
  refine (jr_bd (b_w ht (by omega) (va_s _ _ _))).trans ?_
  refine Eq.trans (bP (ci := 8) ht (by exact rfl) (by exact Nat.le_of_ble_eq_true rfl) _) ?_
  rw [bN ht]
  refine (jr_bd (b_tree ht (by omega) (va_s _ _ _))).trans ?_
  refine Eq.trans (bP (ci := 8) ht (by exact rfl) (by exact Nat.le_of_ble_eq_true rfl) _) ?_
  refine congrArg (fX7_init_46 4096 (n0 + 0) 0) ?_
  refine congrArg (fun T => qB n0 t0 T 19 89) ?_
  funext a
  match a with
  | 0 => rfl
  | 1 => rfl
  | 2 => rfl
  | 3 => rfl
  | 4 => rfl
  | 5 => rfl
  | 6 => rfl
  | 7 => rfl
  | 8 => rfl
  | 9 => rfl
  | 10 => rfl
  | 11 => rfl
  | 12 => rfl
  | 13 => rfl
  | 14 => rfl
  | 15 => rfl
  | 16 => rfl
  | 17 => rfl
  | 18 => rfl
  | k + 19 =>
    rw [va_n (by omega), tP_o (by omega) (by omega) (by omega), tP_o (by omega) (by omega) (by omega), va_n (by omega), va_n (by omega), va_n (by omega), va_n (by omega), va_n (by omega), va_n (by omega), va_n (by omega), va_n (by omega), va_n (by omega)]
    exact va_n (by omega)
/-- a tree by offsets from b on -/
def oT (n0 : Nat) (x : Int32) (b o : Nat) : Option jm_E := if o = 0 then some (.inr (5, [.inl x, .inr (some (n0 + (b + 1)))])) else if o = 1 then some (.inl (2, 12, .inr (fun i => if i < 12 then some (n0 + (b + 2 + i)) else none))) else some (.inr (1, [.inl (-1), .inl 0, .inl 0, .inl 0]))
def oS (n0 t0 i o : Nat) : Option jm_E := if o = 0 then some (.inr (2, [.inl (nI i), .inr (some (n0 + (19 + 16 * i + 2))), .inr (some (n0 + (19 + 16 * i + 1))), .inl 0, .inl 0, .inl 0, .inl 0])) else if o = 1 then some (.inr (0, [.inl 0, .inr (some t0), .inl 0])) else oT n0 (nI i) (19 + 16 * i + 2) (o - 2)
def oE (n0 i o : Nat) : Option jm_E := if o = 0 then some (.inr (3, [.inl (nI i), .inl 0, .inr (some (n0 + (99 + 2 * i + 1)))])) else some (.inl (0, 8, .inl (fun _ => 0)))
/-- after the sessions -/
def tC (n0 t0 : Nat) : Nat → Option jm_E := fun a => if a = 0 then some (.inr (8, [.inr (some (n0 + 1)), .inr (some (n0 + 2)), .inr (some (n0 + 3)), .inr (some (n0 + 5)), .inl 0, .inl 0, .inr none, .inl 0, .inl 0, .inl 0, .inl 0, .inl 0])) else if a = 1 then some (.inl (3, 5, .inr (fun i => if i < 5 then some (n0 + (19 + 16 * i)) else none))) else if a = 2 then some (.inl (4, 6, .inr (fun i => if i < 6 then some (n0 + (99 + 2 * i)) else none))) else if a = 3 then some (.inr (7, [.inr (some (n0 + 4))])) else if a = 4 then some (.inr (0, [.inl 0, .inr (some t0), .inl 0])) else if a < 19 then oT n0 (-1) 5 (a - 5) else if a < 99 then oS n0 t0 ((a - 19) / 16) ((a - 19) % 16) else if a < 111 then oE n0 ((a - 99) / 2) ((a - 99) % 2) else none
theorem r_5 : va_up (va_up (va_up (va_up (va_up (fun _ => none) 0 (some (n0 + 19))) 1 (some (n0 + (19 + 16)))) 2 (some (n0 + (19 + 16 + 16)))) 3 (some (n0 + (19 + 16 + 16 + 16)))) 4 (some (n0 + (19 + 16 + 16 + 16 + 16))) = (fun i => if i < 5 then some (n0 + (19 + 16 * i)) else none) := by
  funext i
  match i with
  | 0 => rfl
  | 1 => rfl
  | 2 => rfl
  | 3 => rfl
  | 4 => rfl
  | k + 5 => rw [va_n (by omega), va_n (by omega), va_n (by omega), va_n (by omega), va_n (by omega), if_neg (by omega)]
theorem r_6 : va_up (va_up (va_up (va_up (va_up (va_up (fun _ => none) 0 (some (n0 + 99))) 1 (some (n0 + (99 + 2)))) 2 (some (n0 + (99 + 2 + 2)))) 3 (some (n0 + (99 + 2 + 2 + 2)))) 4 (some (n0 + (99 + 2 + 2 + 2 + 2)))) 5 (some (n0 + (99 + 2 + 2 + 2 + 2 + 2))) = (fun i => if i < 6 then some (n0 + (99 + 2 * i)) else none) := by
  funext i
  match i with
  | 0 => rfl
  | 1 => rfl
  | 2 => rfl
  | 3 => rfl
  | 4 => rfl
  | 5 => rfl
  | k + 6 => rw [va_n (by omega), va_n (by omega), va_n (by omega), va_n (by omega), va_n (by omega), va_n (by omega), if_neg (by omega)]
theorem eP_o {x : Int32} {a : Nat} (h : ¬ (m ≤ a ∧ a < m + 2)) : eP n0 T x m a = T a := by
  unfold eP
  rw [va_n (by omega), va_n (by omega)]
theorem sP_o {x : Int32} {a : Nat} (h : ¬ (m ≤ a ∧ a < m + 16)) : sP n0 t0 T x m a = T a := by
  unfold sP
  rw [va_n (by omega), tP_o (by omega) (by omega) (by omega), va_n (by omega)]
theorem b_xB (ht : t0 < n0) : fX7_init_46 4096 (n0 + 0) 0 (qB n0 t0 (tP n0 (tA n0 t0) (-1) 5 6 12) 19 89) = fX7_init_77 4090 (n0 + 0) (nI 6) (qB n0 t0 (tC n0 t0) 111 515) := by
  refine Eq.trans (b_sv1 (f := 4095) (k := 0) ht (by omega) (by exact rfl) (by exact rfl) (by exact rfl) (by omega)) ?_
  refine Eq.trans (b_sv1 (f := 4094) (k := 1) ht (by omega) (by exact rfl) (by exact rfl) (by exact rfl) (by omega)) ?_
  refine Eq.trans (b_sv1 (f := 4093) (k := 2) ht (by omega) (by exact rfl) (by exact rfl) (by exact rfl) (by omega)) ?_
  refine Eq.trans (b_sv1 (f := 4092) (k := 3) ht (by omega) (by exact rfl) (by exact rfl) (by exact rfl) (by omega)) ?_
  refine Eq.trans (b_sv1 (f := 4091) (k := 4) ht (by omega) (by exact rfl) (by exact rfl) (by exact rfl) (by omega)) ?_
  rw [fX7_init_46]
  refine Eq.trans (bGR ht (by exact rfl) (by exact rfl) _) ?_
  refine Eq.trans (bLq ht (by exact rfl) _) ?_
  rw [jr_t (show nI 5 ≤ nI (4 + 1) from nI_le (by omega) (by omega))]
  refine Eq.trans (b_se1 (f := 4095) (k := 0) ht (by omega) (by exact rfl) (by exact rfl) (by exact rfl) (by omega)) ?_
  refine Eq.trans (b_se1 (f := 4094) (k := 1) ht (by omega) (by exact rfl) (by exact rfl) (by exact rfl) (by omega)) ?_
  refine Eq.trans (b_se1 (f := 4093) (k := 2) ht (by omega) (by exact rfl) (by exact rfl) (by exact rfl) (by omega)) ?_
  refine Eq.trans (b_se1 (f := 4092) (k := 3) ht (by omega) (by exact rfl) (by exact rfl) (by exact rfl) (by omega)) ?_
  refine Eq.trans (b_se1 (f := 4091) (k := 4) ht (by omega) (by exact rfl) (by exact rfl) (by exact rfl) (by omega)) ?_
  refine Eq.trans (b_se1 (f := 4090) (k := 5) ht (by omega) (by exact rfl) (by exact rfl) (by exact rfl) (by omega)) ?_
  refine congrArg (fX7_init_77 4090 (n0 + 0) (nI 6)) ?_
  refine congrArg (fun T => qB n0 t0 T 111 515) ?_
  funext a
  match a with
  | 0 => rfl
  | 1 => exact congrArg (fun g => (some (.inl (3, 5, .inr g)) : Option jm_E)) r_5
  | 2 => exact congrArg (fun g => (some (.inl (4, 6, .inr g)) : Option jm_E)) r_6
  | 3 => rfl
  | 4 => rfl
  | 5 => rfl
  | 6 => rfl
  | 7 => rfl
  | 8 => rfl
  | 9 => rfl
  | 10 => rfl
  | 11 => rfl
  | 12 => rfl
  | 13 => rfl
  | 14 => rfl
  | 15 => rfl
  | 16 => rfl
  | 17 => rfl
  | 18 => rfl
  | 19 => rfl
  | 20 => rfl
  | 21 => rfl
  | 22 => rfl
  | 23 => rfl
  | 24 => rfl
  | 25 => rfl
  | 26 => rfl
  | 27 => rfl
  | 28 => rfl
  | 29 => rfl
  | 30 => rfl
  | 31 => rfl
  | 32 => rfl
  | 33 => rfl
  | 34 => rfl
  | 35 => rfl
  | 36 => rfl
  | 37 => rfl
  | 38 => rfl
  | 39 => rfl
  | 40 => rfl
  | 41 => rfl
  | 42 => rfl
  | 43 => rfl
  | 44 => rfl
  | 45 => rfl
  | 46 => rfl
  | 47 => rfl
  | 48 => rfl
  | 49 => rfl
  | 50 => rfl
  | 51 => rfl
  | 52 => rfl
  | 53 => rfl
  | 54 => rfl
  | 55 => rfl
  | 56 => rfl
  | 57 => rfl
  | 58 => rfl
  | 59 => rfl
  | 60 => rfl
  | 61 => rfl
  | 62 => rfl
  | 63 => rfl
  | 64 => rfl
  | 65 => rfl
  | 66 => rfl
  | 67 => rfl
  | 68 => rfl
  | 69 => rfl
  | 70 => rfl
  | 71 => rfl
  | 72 => rfl
  | 73 => rfl
  | 74 => rfl
  | 75 => rfl
  | 76 => rfl
  | 77 => rfl
  | 78 => rfl
  | 79 => rfl
  | 80 => rfl
  | 81 => rfl
  | 82 => rfl
  | 83 => rfl
  | 84 => rfl
  | 85 => rfl
  | 86 => rfl
  | 87 => rfl
  | 88 => rfl
  | 89 => rfl
  | 90 => rfl
  | 91 => rfl
  | 92 => rfl
  | 93 => rfl
  | 94 => rfl
  | 95 => rfl
  | 96 => rfl
  | 97 => rfl
  | 98 => rfl
  | 99 => rfl
  | 100 => rfl
  | 101 => rfl
  | 102 => rfl
  | 103 => rfl
  | 104 => rfl
  | 105 => rfl
  | 106 => rfl
  | 107 => rfl
  | 108 => rfl
  | 109 => rfl
  | 110 => rfl
  | k + 111 =>
    rw [va_n (by omega), eP_o (by omega), va_n (by omega), eP_o (by omega), va_n (by omega), eP_o (by omega), va_n (by omega), eP_o (by omega), va_n (by omega), eP_o (by omega), va_n (by omega), eP_o (by omega), va_n (by omega), sP_o (by omega), va_n (by omega), sP_o (by omega), va_n (by omega), sP_o (by omega), va_n (by omega), sP_o (by omega), va_n (by omega), sP_o (by omega), tP_o (by omega) (by omega) (by omega)]
    unfold tC
    rw [if_neg (by omega), if_neg (by omega), if_neg (by omega), if_neg (by omega), if_neg (by omega), if_neg (by omega), if_neg (by omega), if_neg (by omega)]
    rfl
end BC
