/-! ===== the class is made: it starts anew ===== -/
section BD
variable {n0 t0 : Nat} {T : Nat → Option jm_E} {m s j : Nat} {β : Type}
theorem tC_s {k o : Nat} (hk : k < 5) (ho : o < 16) : tC n0 t0 (19 + 16 * k + o) = oS n0 t0 k o := by
  unfold tC
  rw [if_neg (by omega), if_neg (by omega), if_neg (by omega), if_neg (by omega), if_neg (by omega), if_neg (by omega), if_pos (by omega), show (19 + 16 * k + o - 19) / 16 = k by omega, show (19 + 16 * k + o - 19) % 16 = o by omega]
/-- one server's cells after startAnew -/
def sU (n0 t0 : Nat) (T : Nat → Option jm_E) (k b : Nat) : Nat → Option jm_E := va_up (va_up T (19 + 16 * k + 1) (some (.inr (0, [.inl 1, .inr (some t0), .inl 0])))) (19 + 16 * k) (some (.inr (2, [.inl (nI k), .inr (some (n0 + (19 + 16 * k + 2))), .inr (some (n0 + (19 + 16 * k + 1))), .inl (nI b), .inl 0, .inl 0, .inl 0])))
theorem b_sa1 {k f : Nat} (ht : t0 < n0) (hk : k < 5) (h1 : T 1 = some (.inl (3, 5, .inr (fun i => if i < 5 then some (n0 + (19 + 16 * i)) else none)))) (hT : ∀ o, o < 16 → T (19 + 16 * k + o) = oS n0 t0 k o) : fX7_startAnew_16 (f + 1) (n0 + 0) (nI 3) (some (n0 + 1)) (nI 5) (nI k) (qB n0 t0 T m s) = fX7_startAnew_16 f (n0 + 0) (nI 3) (some (n0 + 1)) (nI 5) (nI (k + 1)) (qB n0 t0 (sU n0 t0 T k (if k < 3 then 1 else 0)) m s) := by
  have hS : T (19 + 16 * k) = some (.inr (2, [.inl (nI k), .inr (some (n0 + (19 + 16 * k + 2))), .inr (some (n0 + (19 + 16 * k + 1))), .inl 0, .inl 0, .inl 0, .inl 0])) := hT 0 (by omega)
  have hL : T (19 + 16 * k + 1) = some (.inr (0, [.inl 0, .inr (some t0), .inl 0])) := hT 1 (by omega)
  have hTr : T (19 + 16 * k + 2) = some (.inr (5, [.inl (nI k), .inr (some (n0 + (19 + 16 * k + 3)))])) := hT 2 (by omega)
  have hr : T (19 + 16 * k + 3) = some (.inl (2, 12, .inr (fun i => if i < 12 then some (n0 + (19 + 16 * k + 3 + 1 + i)) else none))) := hT 3 (by omega)
  have hg : ∀ i, i < 12 → (fun i => if i < 12 then some (n0 + (19 + 16 * k + 3 + 1 + i)) else none) i = some (n0 + (19 + 16 * k + 3 + 1 + i)) ∧ T (19 + 16 * k + 3 + 1 + i) = some (.inr (1, [.inl (-1), .inl 0, .inl 0, .inl 0])) := fun i hi => by
    refine ⟨if_pos hi, ?_⟩
    have h := hT (4 + i) (by omega)
    rw [show 19 + 16 * k + (4 + i) = 19 + 16 * k + 3 + 1 + i by omega] at h
    rw [h]
    unfold oS oT
    rw [if_neg (by omega), if_neg (by omega), if_neg (by omega), if_neg (by omega)]
  have hb : ∀ b, b = 0 ∨ b = 1 → fX1_startAnew (n0 + (19 + 16 * k)) (nI b) (qB n0 t0 T m s) = some ((), qB n0 t0 (sU n0 t0 T k b) m s) := fun b hb => b_sa ht hb hS hL hTr hr hg (by omega) (by omega) (by omega) (fun i hi => by omega)
  rw [fX7_startAnew_16, jr_f (nI_ge hk (by omega)), bGq ht h1 hk (by omega), if_pos hk, bGI ht hS rfl, nI_1]
  by_cases h : k < 3
  · rw [if_pos h, jr_f (nI_ge h (by omega)), bO ht hS, jr_bd (show fX1_startAnew (n0 + (19 + 16 * k)) 1 (qB n0 t0 T m s) = _ from hb 1 (Or.inr rfl))]
  · rw [if_neg h, jr_t (nI_le (by omega) (by omega)), bO ht hS, jr_bd (show fX1_startAnew (n0 + (19 + 16 * k)) 0 (qB n0 t0 T m s) = _ from hb 0 (Or.inl rfl))]
theorem sU_o {k b a : Nat} (h1 : a ≠ 19 + 16 * k) (h2 : a ≠ 19 + 16 * k + 1) : sU n0 t0 T k b a = T a := by
  unfold sU
  rw [va_n h1, va_n h2]
def oX (n0 : Nat) (x : Int32) : jm_E := .inr (8, [.inr (some (n0 + 1)), .inr (some (n0 + 2)), .inr (some (n0 + 3)), .inr (some (n0 + 5)), .inl x, .inl 0, .inr none, .inl 0, .inl 0, .inl 0, .inl 0, .inl 0])
/-- the class's memory when it is made -/
def tD (n0 t0 : Nat) : Nat → Option jm_E := va_up (sU n0 t0 (sU n0 t0 (sU n0 t0 (sU n0 t0 (sU n0 t0 (va_up (tC n0 t0) 0 (some (oX n0 3))) 0 1) 1 1) 2 1) 3 0) 4 0) 4 (some (.inr (0, [.inl 1, .inr (some t0), .inl 0])))
theorem b_drop {lj : Nat} (ht : t0 < n0) (hW : T j = some (.inr (7, [.inr (some (n0 + lj))]))) (hL : T lj = some (.inr (0, [.inl 0, .inr (some t0), .inl 0]))) : fX6_dropAll (n0 + j) (qB n0 t0 T m s) = some ((), qB n0 t0 (va_up T lj (some (.inr (0, [.inl 1, .inr (some t0), .inl 0])))) m s) := by
  unfold fX6_dropAll
  rw [bGR ht hW rfl, bO ht hL, jr_bd (b_clr ht hL)]
  rfl
theorem b_xD (ht : t0 < n0) : fX7_startAnew (n0 + 0) 3 (qB n0 t0 (tC n0 t0) m s) = some ((), qB n0 t0 (tD n0 t0) m s) := by
  unfold fX7_startAnew
  refine Eq.trans (bP (ci := 8) ht (by exact rfl) (by exact Nat.le_of_ble_eq_true rfl) _) ?_
  refine Eq.trans (bGR ht (by exact rfl) (by exact rfl) _) ?_
  refine Eq.trans (bLq ht (by exact rfl) _) ?_
  refine Eq.trans (b_sa1 (f := 4095) (k := 0) ht (by omega) (by exact rfl) (fun o ho => by rw [va_n (by omega), tC_s (by omega) ho])) ?_
  refine Eq.trans (b_sa1 (f := 4094) (k := 1) ht (by omega) (by exact rfl) (fun o ho => by rw [sU_o (by omega) (by omega), va_n (by omega), tC_s (by omega) ho])) ?_
  refine Eq.trans (b_sa1 (f := 4093) (k := 2) ht (by omega) (by exact rfl) (fun o ho => by rw [sU_o (by omega) (by omega), sU_o (by omega) (by omega), va_n (by omega), tC_s (by omega) ho])) ?_
  refine Eq.trans (b_sa1 (f := 4092) (k := 3) ht (by omega) (by exact rfl) (fun o ho => by rw [sU_o (by omega) (by omega), sU_o (by omega) (by omega), sU_o (by omega) (by omega), va_n (by omega), tC_s (by omega) ho])) ?_
  refine Eq.trans (b_sa1 (f := 4091) (k := 4) ht (by omega) (by exact rfl) (fun o ho => by rw [sU_o (by omega) (by omega), sU_o (by omega) (by omega), sU_o (by omega) (by omega), sU_o (by omega) (by omega), va_n (by omega), tC_s (by omega) ho])) ?_
  rw [fX7_startAnew_16, jr_t (show nI 5 ≤ nI (4 + 1) from nI_le (by omega) (by omega))]
  have self : ∀ {T : Nat → Option jm_E} {e : Option jm_E} {j : Nat}, T j = e → va_up T j e = T := fun {T e j} h => by rw [← h, va_self]
  refine Eq.trans (bP (ci := 8) ht (by exact rfl) (by exact Nat.le_of_ble_eq_true rfl) _) ?_
  rw [self (by exact rfl)]
  refine Eq.trans (bGR ht (by exact rfl) (by exact rfl) _) ?_
  refine Eq.trans (bO ht (by exact rfl) _) ?_
  refine Eq.trans (jr_bd (b_drop ht (by exact rfl) (by exact rfl))) ?_
  refine Eq.trans (bP (ci := 8) ht (by exact rfl) (by exact Nat.le_of_ble_eq_true rfl) _) ?_
  rw [self (by exact rfl)]
  refine Eq.trans (bP (ci := 8) ht (by exact rfl) (by exact Nat.le_of_ble_eq_true rfl) _) ?_
  rw [self (by exact rfl)]
  refine Eq.trans (bP (ci := 8) ht (by exact rfl) (by exact Nat.le_of_ble_eq_true rfl) _) ?_
  rw [self (by exact rfl)]
  refine Eq.trans (bP (ci := 8) ht (by exact rfl) (by exact Nat.le_of_ble_eq_true rfl) _) ?_
  rw [self (by exact rfl)]
  refine Eq.trans (bP (ci := 8) ht (by exact rfl) (by exact Nat.le_of_ble_eq_true rfl) _) ?_
  rw [self (by exact rfl)]
  refine Eq.trans (bP (ci := 8) ht (by exact rfl) (by exact Nat.le_of_ble_eq_true rfl) _) ?_
  rw [self (by exact rfl)]
  rfl
theorem b_x7 (ht : t0 < n0) : fX7_init (n0 + 0) (qB n0 t0 tX0 1 12) = some ((), qB n0 t0 (tD n0 t0) 111 515) := by
  rw [b_xA ht, b_xB ht, fX7_init_77]
  refine Eq.trans (bGR ht (by exact rfl) (by exact rfl) _) ?_
  refine Eq.trans (bLq ht (by exact rfl) _) ?_
  rw [jr_t (show nI 6 ≤ nI 6 from nI_le (by omega) (by omega))]
  refine Eq.trans (bO ht (by exact rfl) _) ?_
  rw [jr_bd (b_xD ht)]
  rfl
end BD
