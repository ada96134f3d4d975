/-! ===== reads and writes of the class's and the reference's fields ===== -/
section RW
variable {c : CX} {lg : LG} {z w : ZZ}
theorem qW.t {k i : Nat} (h : qW c lg) (hx : qx k i = true) : c.2.1 (c.1 k i) = some (k, i) := h.2.2.1 k i hx
theorem qx2 {i : Nat} (h : i < 5) : qx 2 i = true := by simp [qx, h]
theorem qx3 {i : Nat} (h : i < 6) : qx 3 i = true := by simp [qx, h]
theorem qx4 {i : Nat} (h : i < 6) : qx 4 i = true := by simp [qx, h]
theorem qx5 {i : Nat} (h : i < 72) : qx 5 i = true := by simp [qx, h]
theorem qx6 {i : Nat} (h : i < 6) : qx 6 i = true := by simp [qx, h]
theorem qx10 {i : Nat} (h : i < 6) : qx 10 i = true := by simp [qx, h]
theorem qx11 {i : Nat} (h : i < 6) : qx 11 i = true := by simp [qx, h]
theorem qx21 {i : Nat} (h : i < 29) (hm : mq i = false) : qx 21 i = true := by simp [qx, h, hm]
/-- a change of one number leaves the other cells -/
theorem cel_z {f i k' i' : Nat} {x : Int32} (K : Nat) (hK : (f, K) ∈ [(1, 2), (2, 2), (3, 2), (4, 2), (5, 5), (6, 5), (7, 5), (8, 5), (9, 6), (20, 6), (10, 10), (12, 8), (13, 8), (14, 8), (15, 8), (16, 8), (17, 13), (19, 13)]) (h : ¬ (k' = K ∧ i' = i)) : cel c lg (u2 z f i x) w k' i' = cel c lg z w k' i' := by
  simp only [List.mem_cons, Prod.mk.injEq, List.not_mem_nil, or_false] at hK
  rcases hK with ⟨rfl, rfl⟩ | ⟨rfl, rfl⟩ | ⟨rfl, rfl⟩ | ⟨rfl, rfl⟩ | ⟨rfl, rfl⟩ | ⟨rfl, rfl⟩ | ⟨rfl, rfl⟩ | ⟨rfl, rfl⟩ | ⟨rfl, rfl⟩ | ⟨rfl, rfl⟩ | ⟨rfl, rfl⟩ | ⟨rfl, rfl⟩ | ⟨rfl, rfl⟩ | ⟨rfl, rfl⟩ | ⟨rfl, rfl⟩ | ⟨rfl, rfl⟩ | ⟨rfl, rfl⟩ | ⟨rfl, rfl⟩ <;>
  · unfold cel
    split <;> first | rfl | (have hi : i' ≠ i := fun e => h ⟨rfl, e⟩; simp [u2, hi])
theorem cel_z0 {i k' i' : Nat} {x : Int32} (h : ¬ (k' = 0 ∧ i' = 0)) : cel c lg (u2 z 0 i x) w k' i' = cel c lg z w k' i' := by
  unfold cel
  split <;> first | rfl | (have hi : i' ≠ 0 := fun e => h ⟨rfl, e⟩; simp [hi])
theorem cel_w0 {i k' i' : Nat} {x : Int32} (hm : mq i = true) (h : ¬ (k' = 20 ∧ i' = 0)) : cel c lg z (u2 w i 0 x) k' i' = cel c lg z w k' i' := by
  unfold cel
  split <;> first | rfl | skip
  · have hi : i' ≠ 0 := fun e => h ⟨rfl, e⟩
    simp [hi]
  · by_cases e : mq i' = true
    · simp [e]
    · have hi : i' ≠ i := fun q => e (by rw [q]; exact hm)
      rw [if_neg e, if_neg e, u2_k hi]
theorem cel_w {i j k' i' : Nat} {x : Int32} (hm : mq i = false) (h : ¬ (k' = 21 ∧ i' = i)) : cel c lg z (u2 w i j x) k' i' = cel c lg z w k' i' := by
  unfold cel
  split <;> first | rfl | skip
  · have e : ∀ k, mq k = true → u2 w i j x k = w k := fun k hk => u2_k (fun q => by rw [q, hm] at hk; cases hk)
    split
    · simp only [e 0 rfl, e 5 rfl, e 6 rfl, e 7 rfl, e 8 rfl, e 20 rfl, e 22 rfl, e 25 rfl]
    · rfl
  · have hi : i' ≠ i := fun e => h ⟨rfl, e⟩
    rw [u2_k hi]
theorem cel_11 {i j k' i' : Nat} {x : Int32} (hj : j < 8) (h : ¬ (k' = 11 ∧ i' = i)) : cel c lg (u2 z 11 (8 * i + j) x) w k' i' = cel c lg z w k' i' := by
  unfold cel
  split <;> first | rfl | skip
  have hi : i' ≠ i := fun e => h ⟨rfl, e⟩
  congr 3
  congr 1
  funext a
  by_cases ha : a < 8
  · rw [if_pos ha, if_pos ha, u2_i (by omega)]
  · rw [if_neg ha, if_neg ha]
theorem cel_lg {i k' i' : Nat} {g : Nat → Option Nat} (h : ¬ (k' = 7 ∧ i' = i)) : cel c (va_up lg i g) z w k' i' = cel c lg z w k' i' := by
  unfold cel
  split <;> first | rfl | (have hi : i' ≠ i := fun e => h ⟨rfl, e⟩; simp [va_up, hi])
-- the class itself
theorem rX_o (h : qW c lg) : jm_o (some (c.1 0 0)) 8 (qE c lg z w) = some (c.1 0 0) := jr_o (h.t rfl) rfl
theorem rX (h : qW c lg) : (jm_gR (some (c.1 0 0)) 8 0 (qE c lg z w) = some (some (c.1 1 0)) ∧ jm_gR (some (c.1 0 0)) 8 1 (qE c lg z w) = some (some (c.1 9 0)) ∧ jm_gR (some (c.1 0 0)) 8 2 (qE c lg z w) = some (some (c.1 12 0)) ∧ jm_gR (some (c.1 0 0)) 8 3 (qE c lg z w) = some (some (c.1 3 5))) ∧ (jm_gI (some (c.1 0 0)) 8 4 (qE c lg z w) = some (z 0 4) ∧ jm_gI (some (c.1 0 0)) 8 5 (qE c lg z w) = some (z 0 5) ∧ jm_gI (some (c.1 0 0)) 8 7 (qE c lg z w) = some (z 0 7) ∧ jm_gI (some (c.1 0 0)) 8 8 (qE c lg z w) = some (z 0 8) ∧ jm_gI (some (c.1 0 0)) 8 9 (qE c lg z w) = some (z 0 9) ∧ jm_gI (some (c.1 0 0)) 8 10 (qE c lg z w) = some (z 0 10) ∧ jm_gI (some (c.1 0 0)) 8 11 (qE c lg z w) = some (z 0 11)) ∧ jm_gR (some (c.1 0 0)) 8 6 (qE c lg z w) = some (if z 0 6 < 0 then none else some (c.1 2 (z 0 6).toNatClampNeg)) :=
  ⟨⟨jr_gR (h.t rfl) rfl rfl, jr_gR (h.t rfl) rfl rfl, jr_gR (h.t rfl) rfl rfl, jr_gR (h.t rfl) rfl rfl⟩, ⟨jr_gI (h.t rfl) rfl rfl, jr_gI (h.t rfl) rfl rfl, jr_gI (h.t rfl) rfl rfl, jr_gI (h.t rfl) rfl rfl, jr_gI (h.t rfl) rfl rfl, jr_gI (h.t rfl) rfl rfl, jr_gI (h.t rfl) rfl rfl⟩, jr_gR (h.t rfl) rfl rfl⟩
theorem wX {x : Int32} (h : qW c lg) : jm_p (some (c.1 0 0)) 8 4 (.inl x) (qE c lg z w) = some (qE c lg (u2 z 0 4 x) w) ∧ jm_p (some (c.1 0 0)) 8 5 (.inl x) (qE c lg z w) = some (qE c lg (u2 z 0 5 x) w) ∧ jm_p (some (c.1 0 0)) 8 7 (.inl x) (qE c lg z w) = some (qE c lg (u2 z 0 7 x) w) ∧ jm_p (some (c.1 0 0)) 8 8 (.inl x) (qE c lg z w) = some (qE c lg (u2 z 0 8 x) w) ∧ jm_p (some (c.1 0 0)) 8 9 (.inl x) (qE c lg z w) = some (qE c lg (u2 z 0 9 x) w) ∧ jm_p (some (c.1 0 0)) 8 10 (.inl x) (qE c lg z w) = some (qE c lg (u2 z 0 10 x) w) ∧ jm_p (some (c.1 0 0)) 8 11 (.inl x) (qE c lg z w) = some (qE c lg (u2 z 0 11 x) w) :=
  ⟨jr_p h (h.t rfl) rfl (Nat.le_of_ble_eq_true rfl) rfl (fun _ _ q => cel_z0 q), jr_p h (h.t rfl) rfl (Nat.le_of_ble_eq_true rfl) rfl (fun _ _ q => cel_z0 q), jr_p h (h.t rfl) rfl (Nat.le_of_ble_eq_true rfl) rfl (fun _ _ q => cel_z0 q), jr_p h (h.t rfl) rfl (Nat.le_of_ble_eq_true rfl) rfl (fun _ _ q => cel_z0 q), jr_p h (h.t rfl) rfl (Nat.le_of_ble_eq_true rfl) rfl (fun _ _ q => cel_z0 q), jr_p h (h.t rfl) rfl (Nat.le_of_ble_eq_true rfl) rfl (fun _ _ q => cel_z0 q), jr_p h (h.t rfl) rfl (Nat.le_of_ble_eq_true rfl) rfl (fun _ _ q => cel_z0 q)⟩
theorem wX6n (h : qW c lg) : jm_p (some (c.1 0 0)) 8 6 (.inr none) (qE c lg z w) = some (qE c lg (u2 z 0 6 (-8)) w) := jr_p h (h.t rfl) rfl (Nat.le_of_ble_eq_true rfl) rfl (fun _ _ q => cel_z0 q)
theorem wX6 {i : Nat} (h : qW c lg) (hi : i < 5) : jm_p (some (c.1 0 0)) 8 6 (.inr (some (c.1 2 i))) (qE c lg z w) = some (qE c lg (u2 z 0 6 (nI i)) w) := by
  refine jr_p h (h.t rfl) rfl (Nat.le_of_ble_eq_true rfl) ?_ (fun _ _ q => cel_z0 q)
  have e1 : ¬ nI i < 0 := nI_pos (by omega)
  have e2 : (nI i).toNatClampNeg = i := nI_clamp (by omega)
  simp [cel, u2, e1, e2]
-- the row of servers, a server
theorem rSv (h : qW c lg) : jm_lq (some (c.1 1 0)) 3 (qE c lg z w) = some 5 ∧ ∀ i, i < 5 → jm_gq (some (c.1 1 0)) 3 (nI i) (qE c lg z w) = some (some (c.1 2 i)) := by
  refine ⟨jr_lq (h.t rfl) rfl (Or.inl (by decide)), fun i hi => ?_⟩
  rw [jr_gq (h.t rfl) rfl hi (by decide), if_pos hi]
theorem rS {i : Nat} (h : qW c lg) (hi : i < 5) : jm_o (some (c.1 2 i)) 2 (qE c lg z w) = some (c.1 2 i) ∧ jm_gI (some (c.1 2 i)) 2 0 (qE c lg z w) = some (nI i) ∧ jm_gR (some (c.1 2 i)) 2 1 (qE c lg z w) = some (some (c.1 3 i)) ∧ jm_gR (some (c.1 2 i)) 2 2 (qE c lg z w) = some (some (c.1 6 i)) ∧ jm_gI (some (c.1 2 i)) 2 3 (qE c lg z w) = some (z 1 i) ∧ jm_gI (some (c.1 2 i)) 2 4 (qE c lg z w) = some (z 2 i) ∧ jm_gI (some (c.1 2 i)) 2 5 (qE c lg z w) = some (z 3 i) ∧ jm_gI (some (c.1 2 i)) 2 6 (qE c lg z w) = some (z 4 i) :=
  have t := h.t (qx2 hi)
  ⟨jr_o t rfl, jr_gI t rfl rfl, jr_gR t rfl rfl, jr_gR t rfl rfl, jr_gI t rfl rfl, jr_gI t rfl rfl, jr_gI t rfl rfl, jr_gI t rfl rfl⟩
theorem u2c {i : Nat} {f : Nat} {x : Int32} : u2 z f i x f i = x := u2_s z f i x
theorem wS {i : Nat} {x : Int32} (h : qW c lg) (hi : i < 5) : jm_p (some (c.1 2 i)) 2 3 (.inl x) (qE c lg z w) = some (qE c lg (u2 z 1 i x) w) ∧ jm_p (some (c.1 2 i)) 2 4 (.inl x) (qE c lg z w) = some (qE c lg (u2 z 2 i x) w) ∧ jm_p (some (c.1 2 i)) 2 5 (.inl x) (qE c lg z w) = some (qE c lg (u2 z 3 i x) w) ∧ jm_p (some (c.1 2 i)) 2 6 (.inl x) (qE c lg z w) = some (qE c lg (u2 z 4 i x) w) :=
  have t := h.t (qx2 hi)
  ⟨jr_p h t rfl (Nat.le_of_ble_eq_true rfl) (by simp [cel, u2]) (fun _ _ q => cel_z 2 (by decide) q), jr_p h t rfl (Nat.le_of_ble_eq_true rfl) (by simp [cel, u2]) (fun _ _ q => cel_z 2 (by decide) q), jr_p h t rfl (Nat.le_of_ble_eq_true rfl) (by simp [cel, u2]) (fun _ _ q => cel_z 2 (by decide) q), jr_p h t rfl (Nat.le_of_ble_eq_true rfl) (by simp [cel, u2]) (fun _ _ q => cel_z 2 (by decide) q)⟩
-- a tree, its row of nodes, a node
theorem rT {i : Nat} (h : qW c lg) (hi : i < 6) : jm_o (some (c.1 3 i)) 5 (qE c lg z w) = some (c.1 3 i) ∧ jm_gI (some (c.1 3 i)) 5 0 (qE c lg z w) = some (if i = 5 then -1 else nI i) ∧ jm_gR (some (c.1 3 i)) 5 1 (qE c lg z w) = some (some (c.1 4 i)) ∧ jm_lq (some (c.1 4 i)) 2 (qE c lg z w) = some 12 ∧ ∀ j, j < 12 → jm_gq (some (c.1 4 i)) 2 (nI j) (qE c lg z w) = some (some (c.1 5 (12 * i + j))) := by
  have t := h.t (qx3 hi)
  have t4 := h.t (qx4 hi)
  refine ⟨jr_o t rfl, jr_gI t rfl rfl, jr_gR t rfl rfl, jr_lq t4 rfl (Or.inl (by decide)), fun j hj => ?_⟩
  rw [jr_gq t4 rfl hj (by decide), if_pos hj]
theorem rN {j : Nat} (h : qW c lg) (hj : j < 72) : jm_o (some (c.1 5 j)) 1 (qE c lg z w) = some (c.1 5 j) ∧ jm_gI (some (c.1 5 j)) 1 0 (qE c lg z w) = some (z 5 j) ∧ jm_gI (some (c.1 5 j)) 1 1 (qE c lg z w) = some (z 6 j) ∧ jm_gI (some (c.1 5 j)) 1 2 (qE c lg z w) = some (z 7 j) ∧ jm_gI (some (c.1 5 j)) 1 3 (qE c lg z w) = some (z 8 j) :=
  have t := h.t (qx5 hj)
  ⟨jr_o t rfl, jr_gI t rfl rfl, jr_gI t rfl rfl, jr_gI t rfl rfl, jr_gI t rfl rfl⟩
theorem wN {j : Nat} {x : Int32} (h : qW c lg) (hj : j < 72) : jm_p (some (c.1 5 j)) 1 0 (.inl x) (qE c lg z w) = some (qE c lg (u2 z 5 j x) w) ∧ jm_p (some (c.1 5 j)) 1 1 (.inl x) (qE c lg z w) = some (qE c lg (u2 z 6 j x) w) ∧ jm_p (some (c.1 5 j)) 1 2 (.inl x) (qE c lg z w) = some (qE c lg (u2 z 7 j x) w) ∧ jm_p (some (c.1 5 j)) 1 3 (.inl x) (qE c lg z w) = some (qE c lg (u2 z 8 j x) w) :=
  have t := h.t (qx5 hj)
  ⟨jr_p h t rfl (Nat.le_of_ble_eq_true rfl) (by simp [cel, u2]) (fun _ _ q => cel_z 5 (by decide) q), jr_p h t rfl (Nat.le_of_ble_eq_true rfl) (by simp [cel, u2]) (fun _ _ q => cel_z 5 (by decide) q), jr_p h t rfl (Nat.le_of_ble_eq_true rfl) (by simp [cel, u2]) (fun _ _ q => cel_z 5 (by decide) q), jr_p h t rfl (Nat.le_of_ble_eq_true rfl) (by simp [cel, u2]) (fun _ _ q => cel_z 5 (by decide) q)⟩
-- a list's own fields
theorem rL {i : Nat} (h : qW c lg) (hi : i < 6) : jm_o (some (c.1 6 i)) 0 (qE c lg z w) = some (c.1 6 i) ∧ jm_gI (some (c.1 6 i)) 0 0 (qE c lg z w) = some (z 9 i) ∧ jm_gR (some (c.1 6 i)) 0 1 (qE c lg z w) = some (some (c.1 7 i)) ∧ jm_gI (some (c.1 6 i)) 0 2 (qE c lg z w) = some (z 20 i) :=
  have t := h.t (qx6 hi)
  ⟨jr_o t rfl, jr_gI t rfl rfl, jr_gR t rfl rfl, jr_gI t rfl rfl⟩
theorem wL {i : Nat} {x : Int32} (h : qW c lg) (hi : i < 6) : jm_p (some (c.1 6 i)) 0 0 (.inl x) (qE c lg z w) = some (qE c lg (u2 z 9 i x) w) ∧ jm_p (some (c.1 6 i)) 0 2 (.inl x) (qE c lg z w) = some (qE c lg (u2 z 20 i x) w) :=
  have t := h.t (qx6 hi)
  ⟨jr_p h t rfl (Nat.le_of_ble_eq_true rfl) (by simp [cel, u2]) (fun _ _ q => cel_z 6 (by decide) q), jr_p h t rfl (Nat.le_of_ble_eq_true rfl) (by simp [cel, u2]) (fun _ _ q => cel_z 6 (by decide) q)⟩
-- a transaction, a watch
theorem rTx {a : Nat} (t : c.2.1 a = some (8, a)) : jm_ck (some a) 4 (qE c lg z w) = some () ∧ jm_gI (some a) 4 0 (qE c lg z w) = some (z 12 a) ∧ jm_gI (some a) 4 1 (qE c lg z w) = some (z 13 a) ∧ jm_gI (some a) 4 2 (qE c lg z w) = some (z 14 a) ∧ jm_gI (some a) 4 3 (qE c lg z w) = some (z 15 a) ∧ jm_gI (some a) 4 4 (qE c lg z w) = some (z 16 a) :=
  ⟨jr_ck t rfl, jr_gI t rfl rfl, jr_gI t rfl rfl, jr_gI t rfl rfl, jr_gI t rfl rfl, jr_gI t rfl rfl⟩
theorem rWt {a : Nat} (t : c.2.1 a = some (13, a)) : jm_ck (some a) 6 (qE c lg z w) = some () ∧ jm_o (some a) 6 (qE c lg z w) = some a ∧ jm_gI (some a) 6 0 (qE c lg z w) = some (z 17 a) ∧ jm_gR (some a) 6 1 (qE c lg z w) = some (some (c.1 10 (c.2.2.2.1 a))) ∧ jm_gI (some a) 6 2 (qE c lg z w) = some (z 19 a) :=
  ⟨jr_ck t rfl, jr_o t rfl, jr_gI t rfl rfl, jr_gR t rfl rfl, jr_gI t rfl rfl⟩
-- the sessions, a session, its row; the watches
theorem rSe (h : qW c lg) : jm_lq (some (c.1 9 0)) 4 (qE c lg z w) = some 6 ∧ ∀ i, i < 6 → jm_gq (some (c.1 9 0)) 4 (nI i) (qE c lg z w) = some (some (c.1 10 i)) := by
  refine ⟨jr_lq (h.t rfl) rfl (Or.inl (by decide)), fun i hi => ?_⟩
  rw [jr_gq (h.t rfl) rfl hi (by decide), if_pos hi]
theorem rE {i : Nat} (h : qW c lg) (hi : i < 6) : jm_o (some (c.1 10 i)) 3 (qE c lg z w) = some (c.1 10 i) ∧ jm_gI (some (c.1 10 i)) 3 0 (qE c lg z w) = some (nI i) ∧ jm_gI (some (c.1 10 i)) 3 1 (qE c lg z w) = some (z 10 i) ∧ jm_gR (some (c.1 10 i)) 3 2 (qE c lg z w) = some (some (c.1 11 i)) ∧ ∀ j, j < 8 → jm_gi (some (c.1 11 i)) 0 (nI j) (qE c lg z w) = some (z 11 (8 * i + j)) := by
  have t := h.t (qx10 hi)
  refine ⟨jr_o t rfl, jr_gI t rfl rfl, jr_gI t rfl rfl, jr_gR t rfl rfl, fun j hj => ?_⟩
  rw [jr_gi (h.t (qx11 hi)) rfl hj (by decide), if_pos hj]
theorem wE {i : Nat} {x : Int32} (h : qW c lg) (hi : i < 6) : jm_p (some (c.1 10 i)) 3 1 (.inl x) (qE c lg z w) = some (qE c lg (u2 z 10 i x) w) ∧ ∀ j, j < 8 → jm_si (some (c.1 11 i)) 0 (nI j) x (qE c lg z w) = some (qE c lg (u2 z 11 (8 * i + j) x) w) := by
  refine ⟨jr_p h (h.t (qx10 hi)) rfl (Nat.le_of_ble_eq_true rfl) (by simp [cel, u2]) (fun _ _ q => cel_z 10 (by decide) q), fun j hj => ?_⟩
  refine jr_si h (h.t (qx11 hi)) rfl hj (by decide) ?_ (fun _ _ q => cel_11 hj q)
  show (.inl (0, 8, .inl _) : jm_E) = .inl (0, 8, .inl _)
  congr 3
  congr 1
  funext a
  by_cases ha : a < 8
  · by_cases hja : a = j
    · subst hja
      simp [upd, u2, ha]
    · rw [if_pos ha, u2_i (by omega)]
      simp [upd, hja, ha]
  · simp [upd, ha, show ¬ a = j by omega]
theorem rWs (h : qW c lg) : jm_o (some (c.1 12 0)) 7 (qE c lg z w) = some (c.1 12 0) ∧ jm_gR (some (c.1 12 0)) 7 0 (qE c lg z w) = some (some (c.1 6 5)) := ⟨jr_o (h.t rfl) rfl, jr_gR (h.t rfl) rfl rfl⟩
-- the reference
theorem rM_o (h : qW c lg) : jm_o (some (c.1 20 0)) 9 (qE c lg z w) = some (c.1 20 0) := jr_o (h.t rfl) rfl
theorem rMz (h : qW c lg) : jm_gI (some (c.1 20 0)) 9 0 (qE c lg z w) = some (w 0 0) ∧ jm_gI (some (c.1 20 0)) 9 5 (qE c lg z w) = some (w 5 0) ∧ jm_gI (some (c.1 20 0)) 9 6 (qE c lg z w) = some (w 6 0) ∧ jm_gI (some (c.1 20 0)) 9 7 (qE c lg z w) = some (w 7 0) ∧ jm_gI (some (c.1 20 0)) 9 8 (qE c lg z w) = some (w 8 0) ∧ jm_gI (some (c.1 20 0)) 9 20 (qE c lg z w) = some (w 20 0) ∧ jm_gI (some (c.1 20 0)) 9 22 (qE c lg z w) = some (w 22 0) ∧ jm_gI (some (c.1 20 0)) 9 25 (qE c lg z w) = some (w 25 0) :=
  ⟨jr_gI (h.t rfl) rfl rfl, jr_gI (h.t rfl) rfl rfl, jr_gI (h.t rfl) rfl rfl, jr_gI (h.t rfl) rfl rfl, jr_gI (h.t rfl) rfl rfl, jr_gI (h.t rfl) rfl rfl, jr_gI (h.t rfl) rfl rfl, jr_gI (h.t rfl) rfl rfl⟩
theorem rMa (h : qW c lg) : (jm_gR (some (c.1 20 0)) 9 1 (qE c lg z w) = some (some (c.1 21 1)) ∧ jm_gR (some (c.1 20 0)) 9 2 (qE c lg z w) = some (some (c.1 21 2)) ∧ jm_gR (some (c.1 20 0)) 9 3 (qE c lg z w) = some (some (c.1 21 3)) ∧ jm_gR (some (c.1 20 0)) 9 4 (qE c lg z w) = some (some (c.1 21 4)) ∧ jm_gR (some (c.1 20 0)) 9 9 (qE c lg z w) = some (some (c.1 21 9)) ∧ jm_gR (some (c.1 20 0)) 9 10 (qE c lg z w) = some (some (c.1 21 10)) ∧ jm_gR (some (c.1 20 0)) 9 11 (qE c lg z w) = some (some (c.1 21 11)) ∧ jm_gR (some (c.1 20 0)) 9 12 (qE c lg z w) = some (some (c.1 21 12)) ∧ jm_gR (some (c.1 20 0)) 9 13 (qE c lg z w) = some (some (c.1 21 13)) ∧ jm_gR (some (c.1 20 0)) 9 14 (qE c lg z w) = some (some (c.1 21 14)) ∧ jm_gR (some (c.1 20 0)) 9 15 (qE c lg z w) = some (some (c.1 21 15))) ∧ jm_gR (some (c.1 20 0)) 9 16 (qE c lg z w) = some (some (c.1 21 16)) ∧ jm_gR (some (c.1 20 0)) 9 17 (qE c lg z w) = some (some (c.1 21 17)) ∧ jm_gR (some (c.1 20 0)) 9 18 (qE c lg z w) = some (some (c.1 21 18)) ∧ jm_gR (some (c.1 20 0)) 9 19 (qE c lg z w) = some (some (c.1 21 19)) ∧ jm_gR (some (c.1 20 0)) 9 21 (qE c lg z w) = some (some (c.1 21 21)) ∧ jm_gR (some (c.1 20 0)) 9 23 (qE c lg z w) = some (some (c.1 21 23)) ∧ jm_gR (some (c.1 20 0)) 9 24 (qE c lg z w) = some (some (c.1 21 24)) ∧ jm_gR (some (c.1 20 0)) 9 26 (qE c lg z w) = some (some (c.1 21 26)) ∧ jm_gR (some (c.1 20 0)) 9 27 (qE c lg z w) = some (some (c.1 21 27)) ∧ jm_gR (some (c.1 20 0)) 9 28 (qE c lg z w) = some (some (c.1 21 28)) :=
  ⟨⟨jr_gR (h.t rfl) rfl rfl, jr_gR (h.t rfl) rfl rfl, jr_gR (h.t rfl) rfl rfl, jr_gR (h.t rfl) rfl rfl, jr_gR (h.t rfl) rfl rfl, jr_gR (h.t rfl) rfl rfl, jr_gR (h.t rfl) rfl rfl, jr_gR (h.t rfl) rfl rfl, jr_gR (h.t rfl) rfl rfl, jr_gR (h.t rfl) rfl rfl, jr_gR (h.t rfl) rfl rfl⟩, jr_gR (h.t rfl) rfl rfl, jr_gR (h.t rfl) rfl rfl, jr_gR (h.t rfl) rfl rfl, jr_gR (h.t rfl) rfl rfl, jr_gR (h.t rfl) rfl rfl, jr_gR (h.t rfl) rfl rfl, jr_gR (h.t rfl) rfl rfl, jr_gR (h.t rfl) rfl rfl, jr_gR (h.t rfl) rfl rfl, jr_gR (h.t rfl) rfl rfl⟩
theorem wMz {x : Int32} (h : qW c lg) : jm_p (some (c.1 20 0)) 9 0 (.inl x) (qE c lg z w) = some (qE c lg z (u2 w 0 0 x)) ∧ jm_p (some (c.1 20 0)) 9 5 (.inl x) (qE c lg z w) = some (qE c lg z (u2 w 5 0 x)) ∧ jm_p (some (c.1 20 0)) 9 6 (.inl x) (qE c lg z w) = some (qE c lg z (u2 w 6 0 x)) ∧ jm_p (some (c.1 20 0)) 9 7 (.inl x) (qE c lg z w) = some (qE c lg z (u2 w 7 0 x)) ∧ jm_p (some (c.1 20 0)) 9 8 (.inl x) (qE c lg z w) = some (qE c lg z (u2 w 8 0 x)) ∧ jm_p (some (c.1 20 0)) 9 20 (.inl x) (qE c lg z w) = some (qE c lg z (u2 w 20 0 x)) ∧ jm_p (some (c.1 20 0)) 9 22 (.inl x) (qE c lg z w) = some (qE c lg z (u2 w 22 0 x)) ∧ jm_p (some (c.1 20 0)) 9 25 (.inl x) (qE c lg z w) = some (qE c lg z (u2 w 25 0 x)) :=
  ⟨jr_p h (h.t rfl) rfl (Nat.le_of_ble_eq_true rfl) rfl (fun _ _ q => cel_w0 rfl q), jr_p h (h.t rfl) rfl (Nat.le_of_ble_eq_true rfl) rfl (fun _ _ q => cel_w0 rfl q), jr_p h (h.t rfl) rfl (Nat.le_of_ble_eq_true rfl) rfl (fun _ _ q => cel_w0 rfl q), jr_p h (h.t rfl) rfl (Nat.le_of_ble_eq_true rfl) rfl (fun _ _ q => cel_w0 rfl q), jr_p h (h.t rfl) rfl (Nat.le_of_ble_eq_true rfl) rfl (fun _ _ q => cel_w0 rfl q), jr_p h (h.t rfl) rfl (Nat.le_of_ble_eq_true rfl) rfl (fun _ _ q => cel_w0 rfl q), jr_p h (h.t rfl) rfl (Nat.le_of_ble_eq_true rfl) rfl (fun _ _ q => cel_w0 rfl q), jr_p h (h.t rfl) rfl (Nat.le_of_ble_eq_true rfl) rfl (fun _ _ q => cel_w0 rfl q)⟩
theorem cel21 {k : Nat} (hm : mq k = false) : cel c lg z w 21 k = .inl (mt k, ml k, .inl (w k)) := by
  simp [cel, hm]
theorem rMi {k j : Nat} (h : qW c lg) (hk : k < 29) (hm : mq k = false) (hj : j < ml k) : jm_gi (some (c.1 21 k)) (mt k) (nI j) (qE c lg z w) = some (w k j) := by
  have hl : ml k ≤ 200 := by unfold ml; split <;> (try split) <;> (try split) <;> (try split) <;> (try split) <;> (try split) <;> (try split) <;> omega
  exact jr_gi (h.t (qx21 hk hm)) (cel21 hm) hj (by omega)
theorem wMi {k j : Nat} {x : Int32} (h : qW c lg) (hk : k < 29) (hm : mq k = false) (hj : j < ml k) : jm_si (some (c.1 21 k)) (mt k) (nI j) x (qE c lg z w) = some (qE c lg z (u2 w k j x)) := by
  have hl : ml k ≤ 200 := by unfold ml; split <;> (try split) <;> (try split) <;> (try split) <;> (try split) <;> (try split) <;> (try split) <;> omega
  refine jr_si h (h.t (qx21 hk hm)) (cel21 hm) hj (by omega) ?_ (fun _ _ q => cel_w hm q)
  rw [cel21 hm]
  congr 3
  congr 1
  funext a
  by_cases ha : a = j
  · subst ha
    simp [upd, u2]
  · simp [upd, u2, ha]
end RW
