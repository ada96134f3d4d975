section JG
variable {p : Program} {l : Launch} {e : Env} {s : State} {m : MethodId} {args : Array Value} {below : List Frame} {meth : Method} {c : Code} {G : jm_G}
/-! CoordinationService$Watches.<init> -/
def fX6_init (h0 : Nat) : jm_P Unit := jm_rd (jm_nn (some h0)) fun _ => jm_bd (jm_new 0 [.inl 0, .inr none, .inl 0]) fun q2 => jm_bd (fJx4a65c_init_da8c8 q2) fun _ => jm_wr (jm_p (some h0) 7 0 (.inr (some q2))) <| jm_ret ()
theorem inX6_init_Jx4a65c : ∀ w ∈ wsJx4a65c0, w ∈ wsX6_init := fun _ h => List.mem_cons_of_mem _ (List.mem_append_left _ (List.mem_append_right _ h))
theorem inX6_init_X6 : ∀ w ∈ wsX60, w ∈ wsX6_init := fun _ h => List.mem_cons_of_mem _ (List.mem_append_right _ h)
theorem moX6_init (h0 : Nat) : jm_Mo (fX6_init h0) := by
  unfold fX6_init
  exact jm_Mo_rd (fun _ => jm_Mo_bd jm_Mo_new (fun _ => jm_Mo_bd (moJx4a65c_init_da8c8 _) (fun _ => jm_Mo_wr jm_p_st (jm_Mo_ret _))))
set_option maxHeartbeats 4000000 in
set_option maxRecDepth 100000 in
theorem kX6_init {rv : Unit} {Sf : jm_S} (C : jm_C G cX6_init 1 RX6 wsX6_init (none) p s m args meth c) (hi : meth.name = "<init>") {n0 m0 mc ms : Nat} (hr1 : Sf.2.1 ≤ n0 + mc) (hr2 : Sf.2.2.1 ≤ m0 + ms) : ∀ (h0 : Nat) {S : jm_S} {H : Heap} {locs : List Loc} {ls : Array Slot} {cells slots : Nat}, fX6_init h0 S = some (rv, Sf) → jm_J G S H → va_S (jm_A G) s.heap H locs → jm_L ls 1 [(0, .inr (some h0))] → cells + n0 ≤ S.2.1 → slots + m0 ≤ S.2.2.1 → W p l e ({ frames := 4, cells := mc, slots := ms, locals := 80 } : Room) s m args below meth c H locs cells slots (MQ below (jm_Q G (none) Sf) args s mc ms (jm_A G)) (F0 m 0 ls []) := by
  intro h0 S H locs ls cells slots hf hJ hS hl hc1 hc2
  unfold fX6_init at hf
  refine jw_aload_n C dX6_init_0 rfl (hl.at 0 rfl) ?_
  obtain ⟨u1, h1, hf⟩ := jm_rd_ok hf
  refine jw_objInit C h1 hl.1 (jm_w C 1 rfl) (jm_w C 2 rfl) (jm_w C 3 rfl) dX6_init_1 (Nat.le_of_ble_eq_true rfl) (Nat.le_of_ble_eq_true rfl) (Nat.le_of_ble_eq_true rfl) ?_
  refine jw_aload_n C dX6_init_4 rfl (hl.at 0 rfl) ?_
  obtain ⟨q2, S2, h2, hf⟩ := jm_bd_ok hf
  have e2 := jm_new_st h2
  have g2 := jm_mo hf (jm_Mo_bd (moJx4a65c_init_da8c8 _) (fun _ => jm_Mo_wr jm_p_st (jm_Mo_ret _)))
  simp only [List.length_cons, List.length_nil] at e2
  refine jw_new (Cn := RJx4a65c) (T := TJx4a65c) (N := 3) C hJ hS h2 rfl inX6_init_Jx4a65c tyJx4a65c tyJx4a65c_ok (by decide +kernel) rfl (jm_w C 4 rfl) (jm_w C 5 rfl) (jm_w C 6 rfl) (by show cells + 1 ≤ mc; omega) (by show slots + 3 ≤ ms; omega) dX6_init_5 (fun H hJ hS => ?_)
  replace hc1 : cells + 1 + n0 ≤ S2.2.1 := by omega
  replace hc2 : slots + 3 + m0 ≤ S2.2.2.1 := by omega
  generalize cells + 1 = cells at hc1 ⊢
  generalize slots + 3 = slots at hc2 ⊢
  refine lv_dup C.1 C.2.1 dX6_init_8 (jm_catr _) ?_
  obtain ⟨v3, S3, h3, hf⟩ := jm_bd_ok hf
  have e3 := moJx4a65c_init_da8c8 q2 _ _ _ h3
  have g3 := jm_mo hf (jm_Mo_wr jm_p_st (jm_Mo_ret _))
  refine jw_cI C hJ hS (cJx4a65c_init_da8c8_C l G q2 h3) (cwI 0 C.2.2.2.2.1 gX6_init_Jx4a65c_init_da8c8 rfl rfl rfl (jm_w C 6 rfl) (jm_w C 8 rfl) (jm_w C 9 rfl) rfl (by decide +kernel) ⟨Nat.le_of_ble_eq_true rfl, Nat.le_of_ble_eq_true rfl⟩) rfl hl.1 rfl (Nat.le_of_ble_eq_true rfl) dX6_init_9 ⟨by show cells + 0 ≤ mc; omega, by show slots + 0 ≤ ms; omega⟩ (fun H locs hJ hS => ?_)
  replace hc1 : cells + 0 + n0 ≤ S3.2.1 := by omega
  replace hc2 : slots + 0 + m0 ≤ S3.2.2.1 := by omega
  generalize cells + 0 = cells at hc1 ⊢
  generalize slots + 0 = slots at hc2 ⊢
  obtain ⟨S4, h4, hf⟩ := jm_wr_ok hf
  have e4 := jm_p_st _ _ h4
  rw [← e4] at hc1 hc2
  refine jw_pF (x := .inr (some q2)) (ty := (.object "java/util/ArrayList")) (Cn := RX6) (T := TX6) (N := 1) C hJ hS h4 rfl inX6_init_X6 tyX6 tyX6_ok nmX6 (by decide) (jm_w C 7 rfl) (fun _ h => h) rfl hi rfl (by decide +kernel) (jm_nr _ (some q2)).1 (jm_nr _ (some q2)).2 dX6_init_12 (fun H locs hJ hS => ?_)
  obtain ⟨rfl, rfl⟩ := jm_ret_ok hf
  exact jw_rv C hJ hS (by omega) (by omega) dX6_init_15
set_option maxHeartbeats 4000000 in
set_option maxRecDepth 100000 in
theorem cX6_init_C (l : Launch) (G : jm_G) (h0 : Nat) {S Sf : jm_S} {rv : Unit} (hf : fX6_init h0 S = some (rv, Sf)) (mc ms : Nat) (hr1 : Sf.2.1 ≤ S.2.1 + mc) (hr2 : Sf.2.2.1 ≤ S.2.2.1 + ms) : Met l yX6_init wsX6_init ({ frames := 4, cells := mc, slots := ms, locals := 80 } : Room) (jm_Pc G S [.ref h0]) (jm_Q G (none) Sf) mc ms (jm_A G) := by
  refine Met.ofW (cc := cX6_init) (maxL := 1) (ret := none) (by decide) rfl ?_
  intro p e s m args below meth c s₁ B hml hv
  obtain ⟨rfl, hJ, hX⟩ := hv
  have C : jm_C G cX6_init 1 RX6 wsX6_init (none) p s m _ meth c := ⟨B.exec, B.bytes, hml, findClass_of_methodNamed B.named, atoms_spec (ws := wsX6_init) B.pre, B.returns, B.notSynchronized, hX⟩
  have hi : meth.name = "<init>" := (name_of_methodNamed B.named B.method).1
  obtain ⟨ls, he, hl⟩ := jm_entry m [.inr (some h0)] (n := 1) (Nat.le_of_ble_eq_true rfl)
  have he : entryFrame m ([.ref h0] : List Value).toArray 1 = F0 m 0 ls [] := he
  rw [he]
  exact kX6_init C hi (n0 := S.2.1) (m0 := S.2.2.1) hr1 hr2 h0 hf hJ va_S.rf (hl.sub [0] rfl) (by omega) (by omega)
/-! CoordinationService$Node.<init> -/
def fX0_init (h0 : Nat) : jm_P Unit := jm_rd (jm_nn (some h0)) fun _ => jm_wr (jm_p (some h0) 1 0 (.inl (-1))) <| jm_ret ()
theorem inX0_init_X0 : ∀ w ∈ wsX00, w ∈ wsX0_init := fun _ h => List.mem_cons_of_mem _ (List.mem_append_right _ h)
theorem moX0_init (h0 : Nat) : jm_Mo (fX0_init h0) := by
  unfold fX0_init
  exact jm_Mo_rd (fun _ => jm_Mo_wr jm_p_st (jm_Mo_ret _))
set_option maxHeartbeats 4000000 in
set_option maxRecDepth 100000 in
theorem kX0_init {rv : Unit} {Sf : jm_S} (C : jm_C G cX0_init 1 RX0 wsX0_init (none) p s m args meth c) (hi : meth.name = "<init>") : ∀ (h0 : Nat) {S : jm_S} {H : Heap} {locs : List Loc} {ls : Array Slot}, fX0_init h0 S = some (rv, Sf) → jm_J G S H → va_S (jm_A G) s.heap H locs → jm_L ls 1 [(0, .inr (some h0))] → W p l e ({ frames := 1, cells := 0, slots := 0, locals := 20 } : Room) s m args below meth c H locs 0 0 (MQ below (jm_Q G (none) Sf) args s 0 0 (jm_A G)) (F0 m 0 ls []) := by
  intro h0 S H locs ls hf hJ hS hl
  unfold fX0_init at hf
  refine jw_aload_n C dX0_init_0 rfl (hl.at 0 rfl) ?_
  obtain ⟨u1, h1, hf⟩ := jm_rd_ok hf
  refine jw_objInit C h1 hl.1 (jm_w C 1 rfl) (jm_w C 2 rfl) (jm_w C 3 rfl) dX0_init_1 (Nat.le_of_ble_eq_true rfl) (Nat.le_of_ble_eq_true rfl) (Nat.le_of_ble_eq_true rfl) ?_
  refine jw_aload_n C dX0_init_4 rfl (hl.at 0 rfl) ?_
  refine lv_iconst (v := (-1)) C.1 C.2.1 dX0_init_5 (by decide) ?_
  obtain ⟨S2, h2, hf⟩ := jm_wr_ok hf
  refine jw_p (x := .inl (-1)) (ty := .int) (Cn := RX0) (T := TX0) (N := 4) C hJ hS h2 rfl inX0_init_X0 tyX0 tyX0_ok nmX0 (by decide) (jm_w C 4 rfl) (fun _ h => h) rfl (by decide +kernel) rfl rfl dX0_init_6 (fun H locs hJ hS => ?_)
  obtain ⟨rfl, rfl⟩ := jm_ret_ok hf
  exact jw_rv C hJ hS (Nat.le_refl _) (Nat.le_refl _) dX0_init_9
set_option maxHeartbeats 4000000 in
set_option maxRecDepth 100000 in
theorem cX0_init_C (l : Launch) (G : jm_G) (h0 : Nat) {S Sf : jm_S} {rv : Unit} (hf : fX0_init h0 S = some (rv, Sf)) : Met l yX0_init wsX0_init ({ frames := 1, cells := 0, slots := 0, locals := 20 } : Room) (jm_Pc G S [.ref h0]) (jm_Q G (none) Sf) 0 0 (jm_A G) := by
  refine Met.ofW (cc := cX0_init) (maxL := 1) (ret := none) (by decide) rfl ?_
  intro p e s m args below meth c s₁ B hml hv
  obtain ⟨rfl, hJ, hX⟩ := hv
  have C : jm_C G cX0_init 1 RX0 wsX0_init (none) p s m _ meth c := ⟨B.exec, B.bytes, hml, findClass_of_methodNamed B.named, atoms_spec (ws := wsX0_init) B.pre, B.returns, B.notSynchronized, hX⟩
  have hi : meth.name = "<init>" := (name_of_methodNamed B.named B.method).1
  obtain ⟨ls, he, hl⟩ := jm_entry m [.inr (some h0)] (n := 1) (Nat.le_of_ble_eq_true rfl)
  have he : entryFrame m ([.ref h0] : List Value).toArray 1 = F0 m 0 ls [] := he
  rw [he]
  exact kX0_init C hi h0 hf hJ va_S.rf (hl.sub [0] rfl)
/-! CoordinationService$Tree.<init> -/
def fX4_init_20 : Nat → Nat → Int32 → jm_P Unit
  | 0, _, _ => jm_no
  | n + 1, h0, x2 => jm_rd (jm_gR (some h0) 5 1) fun v5 => jm_rd (jm_lq v5 2) fun v6 => (if v6 ≤ x2 then jm_ret () else jm_rd (jm_gR (some h0) 5 1) fun v8 => jm_bd (jm_new 1 [.inl 0, .inl 0, .inl 0, .inl 0]) fun q9 => jm_bd (fX0_init q9) fun _ => jm_wr (jm_sq v8 2 x2 (some q9)) <| fX4_init_20 n h0 (x2 + 1))
def fX4_init (h0 : Nat) (x1 : Int32) : jm_P Unit := jm_rd (jm_nn (some h0)) fun _ => jm_bd (jm_nq 2 12) fun q2 => jm_wr (jm_p (some h0) 5 1 (.inr q2)) <| jm_wr (jm_p (some h0) 5 0 (.inl x1)) <| fX4_init_20 4096 h0 0
theorem inX4_init_X4 : ∀ w ∈ wsX40, w ∈ wsX4_init := fun _ h => List.mem_cons_of_mem _ (List.mem_append_left _ (List.mem_append_right _ h))
theorem inX4_init_X0 : ∀ w ∈ wsX00, w ∈ wsX4_init := fun _ h => List.mem_cons_of_mem _ (List.mem_append_right _ h)
theorem moX4_init_20 : ∀ (n : Nat) (h0 : Nat) (x2 : Int32), jm_Mo (fX4_init_20 n h0 x2) := by
  intro n
  induction n with
  | zero =>
    intro h0 x2
    rw [fX4_init_20]
    exact jm_Mo_no
  | succ n ih =>
    intro h0 x2
    rw [fX4_init_20]
    exact jm_Mo_rd (fun _ => jm_Mo_rd (fun _ => jm_Mo_if (jm_Mo_ret _) (jm_Mo_rd (fun _ => jm_Mo_bd jm_Mo_new (fun _ => jm_Mo_bd (moX0_init _) (fun _ => jm_Mo_wr jm_sq_st (ih _ _)))))))
set_option maxHeartbeats 4000000 in
set_option maxRecDepth 100000 in
theorem kX4_init_20 {rv : Unit} {Sf : jm_S} (C : jm_C G cX4_init 3 RX4 wsX4_init (none) p s m args meth c) (hi : meth.name = "<init>") {n0 m0 mc ms : Nat} (hr1 : Sf.2.1 ≤ n0 + mc) (hr2 : Sf.2.2.1 ≤ m0 + ms) : ∀ (n : Nat) (h0 : Nat) (x2 : Int32) {S : jm_S} {H : Heap} {locs : List Loc} {ls : Array Slot} {cells slots : Nat}, fX4_init_20 n h0 x2 S = some (rv, Sf) → jm_J G S H → va_S (jm_A G) s.heap H locs → jm_L ls 3 [(0, .inr (some h0)), (2, .inl x2)] → cells + n0 ≤ S.2.1 → slots + m0 ≤ S.2.2.1 → W p l e ({ frames := 2, cells := mc, slots := ms, locals := 40 } : Room) s m args below meth c H locs cells slots (MQ below (jm_Q G (none) Sf) args s mc ms (jm_A G)) (F0 m 20 ls []) := by
  intro n
  induction n with
  | zero =>
    intro h0 x2 S H locs ls cells slots hf
    rw [fX4_init_20] at hf
    exact absurd hf (fun h => jm_no_ok h)
  | succ n ih =>
    intro h0 x2 S H locs ls cells slots hf hJ hS hl hc1 hc2
    rw [fX4_init_20] at hf
    refine lv_iload_n C.1 C.2.1 dX4_init_20 rfl (hl.at 1 rfl) ?_
    refine jw_aload_n C dX4_init_21 rfl (hl.at 0 rfl) ?_
    obtain ⟨v5, h5, hf⟩ := jm_rd_ok hf
    refine jw_gR (Cn := RX4) (T := TX4) (N := 2) C hJ h5 rfl inX4_init_X4 (by decide) (jm_w C 5 rfl) (fun _ h => h) dX4_init_22 ?_
    obtain ⟨v6, h6, hf⟩ := jm_rd_ok hf
    refine jw_lq C hJ hS h6 (by decide) rfl dX4_init_25 ?_
    refine lv_icmp_ge (tgt := 48) C.1 C.2.1 dX4_init_26 (by decide) (fun hq7 => ?_) (fun hq7 => ?_)
    · replace hf := jm_ift hf hq7
      obtain ⟨rfl, rfl⟩ := jm_ret_ok hf
      exact jw_rv C hJ hS (by omega) (by omega) dX4_init_48
    · replace hf := jm_iff hf hq7
      refine jw_aload_n C dX4_init_29 rfl (hl.at 0 rfl) ?_
      obtain ⟨v8, h8, hf⟩ := jm_rd_ok hf
      refine jw_gR (Cn := RX4) (T := TX4) (N := 2) C hJ h8 rfl inX4_init_X4 (by decide) (jm_w C 5 rfl) (fun _ h => h) dX4_init_30 ?_
      refine lv_iload_n C.1 C.2.1 dX4_init_33 rfl (hl.at 1 rfl) ?_
      obtain ⟨q9, S9, h9, hf⟩ := jm_bd_ok hf
      have e9 := jm_new_st h9
      have g9 := jm_mo hf (jm_Mo_bd (moX0_init _) (fun _ => jm_Mo_wr jm_sq_st (moX4_init_20 _ _ _)))
      simp only [List.length_cons, List.length_nil] at e9
      refine jw_new (Cn := RX0) (T := TX0) (N := 4) C hJ hS h9 rfl inX4_init_X0 tyX0 tyX0_ok (by decide +kernel) rfl (jm_w C 4 rfl) (jm_w C 7 rfl) (jm_w C 8 rfl) (by show cells + 1 ≤ mc; omega) (by show slots + 4 ≤ ms; omega) dX4_init_34 (fun H hJ hS => ?_)
      replace hc1 : cells + 1 + n0 ≤ S9.2.1 := by omega
      replace hc2 : slots + 4 + m0 ≤ S9.2.2.1 := by omega
      generalize cells + 1 = cells at hc1 ⊢
      generalize slots + 4 = slots at hc2 ⊢
      refine lv_dup C.1 C.2.1 dX4_init_37 (jm_catr _) ?_
      obtain ⟨v10, S10, h10, hf⟩ := jm_bd_ok hf
      have e10 := moX0_init q9 _ _ _ h10
      have g10 := jm_mo hf (jm_Mo_wr jm_sq_st (moX4_init_20 _ _ _))
      refine jw_cIN C hJ hS (cX0_init_C l G q9 h10) (va_cnB 0 C.2.2.2.2.1 gX4_init_X0_init_n21 rfl rfl rfl C.2.2.2.2.2.2.2.2.2.2.2.2.2.2.2.1 (jm_w C 8 rfl) (by decide +kernel) ⟨Nat.le_of_ble_eq_true rfl, Nat.le_of_ble_eq_true rfl⟩) rfl (jm_w C 9 rfl) rfl hl.1 rfl (Nat.le_of_ble_eq_true rfl) dX4_init_38 ⟨by show cells + 0 ≤ mc; omega, by show slots + 0 ≤ ms; omega⟩ (fun H locs hJ hS => ?_)
      replace hc1 : cells + 0 + n0 ≤ S10.2.1 := by omega
      replace hc2 : slots + 0 + m0 ≤ S10.2.2.1 := by omega
      generalize cells + 0 = cells at hc1 ⊢
      generalize slots + 0 = slots at hc2 ⊢
      obtain ⟨S11, h11, hf⟩ := jm_wr_ok hf
      have e11 := jm_sq_st _ _ h11
      rw [← e11] at hc1 hc2
      refine jw_aastore C hJ hS h11 (by decide) rfl dX4_init_41 (fun H locs hJ hS => ?_)
      refine jw_iinc (v := x2 + 1) C 1 dX4_init_42 hl rfl (by rfl) (by decide) rfl (fun ls hl => ?_)
      refine lv_goto (tgt := 20) C.1 C.2.1 dX4_init_45 (by decide) ?_
      exact ih h0 (x2 + 1) hf hJ hS (hl.sub [1, 0] rfl) hc1 hc2
theorem moX4_init (h0 : Nat) (x1 : Int32) : jm_Mo (fX4_init h0 x1) := by
  unfold fX4_init
  exact jm_Mo_rd (fun _ => jm_Mo_bd jm_Mo_nq (fun _ => jm_Mo_wr jm_p_st (jm_Mo_wr jm_p_st (moX4_init_20 _ _ _))))
set_option maxHeartbeats 4000000 in
set_option maxRecDepth 100000 in
theorem kX4_init {rv : Unit} {Sf : jm_S} (C : jm_C G cX4_init 3 RX4 wsX4_init (none) p s m args meth c) (hi : meth.name = "<init>") {n0 m0 mc ms : Nat} (hr1 : Sf.2.1 ≤ n0 + mc) (hr2 : Sf.2.2.1 ≤ m0 + ms) : ∀ (h0 : Nat) (x1 : Int32) {S : jm_S} {H : Heap} {locs : List Loc} {ls : Array Slot} {cells slots : Nat}, fX4_init h0 x1 S = some (rv, Sf) → jm_J G S H → va_S (jm_A G) s.heap H locs → jm_L ls 3 [(0, .inr (some h0)), (1, .inl x1)] → cells + n0 ≤ S.2.1 → slots + m0 ≤ S.2.2.1 → W p l e ({ frames := 2, cells := mc, slots := ms, locals := 40 } : Room) s m args below meth c H locs cells slots (MQ below (jm_Q G (none) Sf) args s mc ms (jm_A G)) (F0 m 0 ls []) := by
  intro h0 x1 S H locs ls cells slots hf hJ hS hl hc1 hc2
  unfold fX4_init at hf
  refine jw_aload_n C dX4_init_0 rfl (hl.at 0 rfl) ?_
  obtain ⟨u1, h1, hf⟩ := jm_rd_ok hf
  refine jw_objInit C h1 hl.1 (jm_w C 1 rfl) (jm_w C 2 rfl) (jm_w C 3 rfl) dX4_init_1 (Nat.le_of_ble_eq_true rfl) (Nat.le_of_ble_eq_true rfl) (Nat.le_of_ble_eq_true rfl) ?_
  refine jw_aload_n C dX4_init_4 rfl (hl.at 0 rfl) ?_
  refine lv_bipush (v := 12) C.1 C.2.1 dX4_init_5 (by decide) ?_
  obtain ⟨q2, S2, h2, hf⟩ := jm_bd_ok hf
  have e2 := jm_nq_st h2
  have g2 := jm_mo hf (jm_Mo_wr jm_p_st (jm_Mo_wr jm_p_st (moX4_init_20 _ _ _)))
  refine jw_nq C hJ hS h2 (jm_w C 4 rfl) C.2.2.2.2.2.2.2.2.2.2.2.1.1 rfl (by show cells + 1 ≤ mc; omega) (by show slots + _ ≤ ms; omega) dX4_init_7 (fun H hJ hS => ?_)
  replace hc1 : cells + 1 + n0 ≤ S2.2.1 := by omega
  replace hc2 : slots + (12 : Int32).toNatClampNeg + m0 ≤ S2.2.2.1 := by omega
  generalize cells + 1 = cells at hc1 ⊢
  generalize slots + (12 : Int32).toNatClampNeg = slots at hc2 ⊢
  obtain ⟨S3, h3, hf⟩ := jm_wr_ok hf
  have e3 := jm_p_st _ _ h3
  rw [← e3] at hc1 hc2
  refine jw_pF (x := .inr q2) (ty := (.array (.object "CoordinationService$Node"))) (Cn := RX4) (T := TX4) (N := 2) C hJ hS h3 rfl inX4_init_X4 tyX4 tyX4_ok nmX4 (by decide) (jm_w C 5 rfl) (fun _ h => h) rfl hi rfl (by decide +kernel) (jm_nra _ q2).1 (jm_nra _ q2).2 dX4_init_10 (fun H locs hJ hS => ?_)
  refine jw_aload_n C dX4_init_13 rfl (hl.at 0 rfl) ?_
  refine lv_iload_n C.1 C.2.1 dX4_init_14 rfl (hl.at 1 rfl) ?_
  obtain ⟨S4, h4, hf⟩ := jm_wr_ok hf
  have e4 := jm_p_st _ _ h4
  rw [← e4] at hc1 hc2
  refine jw_pF (x := .inl x1) (ty := .int) (Cn := RX4) (T := TX4) (N := 2) C hJ hS h4 rfl inX4_init_X4 tyX4 tyX4_ok nmX4 (by decide) (jm_w C 6 rfl) (fun _ h => h) rfl hi rfl (by decide +kernel) rfl rfl dX4_init_15 (fun H locs hJ hS => ?_)
  refine lv_iconst (v := 0) C.1 C.2.1 dX4_init_18 (by decide) ?_
  refine jw_istore_n C dX4_init_19 rfl hl (by decide) rfl (fun ls hl => ?_)
  exact kX4_init_20 C hi hr1 hr2 4096 h0 0 hf hJ hS (hl.sub [1, 0] rfl) hc1 hc2
set_option maxHeartbeats 4000000 in
set_option maxRecDepth 100000 in
theorem cX4_init_C (l : Launch) (G : jm_G) (h0 : Nat) (x1 : Int32) {S Sf : jm_S} {rv : Unit} (hf : fX4_init h0 x1 S = some (rv, Sf)) (mc ms : Nat) (hr1 : Sf.2.1 ≤ S.2.1 + mc) (hr2 : Sf.2.2.1 ≤ S.2.2.1 + ms) : Met l yX4_init wsX4_init ({ frames := 2, cells := mc, slots := ms, locals := 40 } : Room) (jm_Pc G S [.ref h0, .int x1]) (jm_Q G (none) Sf) mc ms (jm_A G) := by
  refine Met.ofW (cc := cX4_init) (maxL := 3) (ret := none) (by decide) rfl ?_
  intro p e s m args below meth c s₁ B hml hv
  obtain ⟨rfl, hJ, hX⟩ := hv
  have C : jm_C G cX4_init 3 RX4 wsX4_init (none) p s m _ meth c := ⟨B.exec, B.bytes, hml, findClass_of_methodNamed B.named, atoms_spec (ws := wsX4_init) B.pre, B.returns, B.notSynchronized, hX⟩
  have hi : meth.name = "<init>" := (name_of_methodNamed B.named B.method).1
  obtain ⟨ls, he, hl⟩ := jm_entry m [.inr (some h0), .inl x1] (n := 3) (Nat.le_of_ble_eq_true rfl)
  have he : entryFrame m ([.ref h0, .int x1] : List Value).toArray 3 = F0 m 0 ls [] := he
  rw [he]
  exact kX4_init C hi (n0 := S.2.1) (m0 := S.2.2.1) hr1 hr2 h0 x1 hf hJ va_S.rf (hl.sub [0, 1] rfl) (by omega) (by omega)
/-! CoordinationService$Server.<init> -/
def fX1_init (h0 : Nat) (x1 : Int32) : jm_P Unit := jm_rd (jm_nn (some h0)) fun _ => jm_bd (jm_new 0 [.inl 0, .inr none, .inl 0]) fun q2 => jm_bd (fJx4a65c_init_da8c8 q2) fun _ => jm_wr (jm_p (some h0) 2 2 (.inr (some q2))) <| jm_wr (jm_p (some h0) 2 0 (.inl x1)) <| jm_bd (jm_new 5 [.inl 0, .inr none]) fun q6 => jm_bd (fX4_init q6 x1) fun _ => jm_wr (jm_p (some h0) 2 1 (.inr (some q6))) <| jm_ret ()
theorem inX1_init_Jx4a65c : ∀ w ∈ wsJx4a65c0, w ∈ wsX1_init := fun _ h => List.mem_cons_of_mem _ (List.mem_append_left _ (List.mem_append_left _ (List.mem_append_left _ (List.mem_append_right _ h))))
theorem inX1_init_X1 : ∀ w ∈ wsX10, w ∈ wsX1_init := fun _ h => List.mem_cons_of_mem _ (List.mem_append_left _ (List.mem_append_left _ (List.mem_append_right _ h)))
theorem inX1_init_X4 : ∀ w ∈ wsX40, w ∈ wsX1_init := fun _ h => List.mem_cons_of_mem _ (List.mem_append_left _ (List.mem_append_right _ h))
theorem moX1_init (h0 : Nat) (x1 : Int32) : jm_Mo (fX1_init h0 x1) := by
  unfold fX1_init
  exact jm_Mo_rd (fun _ => jm_Mo_bd jm_Mo_new (fun _ => jm_Mo_bd (moJx4a65c_init_da8c8 _) (fun _ => jm_Mo_wr jm_p_st (jm_Mo_wr jm_p_st (jm_Mo_bd jm_Mo_new (fun _ => jm_Mo_bd (moX4_init _ _) (fun _ => jm_Mo_wr jm_p_st (jm_Mo_ret _))))))))
set_option maxHeartbeats 4000000 in
set_option maxRecDepth 100000 in
theorem kX1_init {rv : Unit} {Sf : jm_S} (C : jm_C G cX1_init 2 RX1 wsX1_init (none) p s m args meth c) (hi : meth.name = "<init>") {n0 m0 mc ms : Nat} (hr1 : Sf.2.1 ≤ n0 + mc) (hr2 : Sf.2.2.1 ≤ m0 + ms) : ∀ (h0 : Nat) (x1 : Int32) {S : jm_S} {H : Heap} {locs : List Loc} {ls : Array Slot} {cells slots : Nat}, fX1_init h0 x1 S = some (rv, Sf) → jm_J G S H → va_S (jm_A G) s.heap H locs → jm_L ls 2 [(0, .inr (some h0)), (1, .inl x1)] → cells + n0 ≤ S.2.1 → slots + m0 ≤ S.2.2.1 → W p l e ({ frames := 4, cells := mc, slots := ms, locals := 80 } : Room) s m args below meth c H locs cells slots (MQ below (jm_Q G (none) Sf) args s mc ms (jm_A G)) (F0 m 0 ls []) := by
  intro h0 x1 S H locs ls cells slots hf hJ hS hl hc1 hc2
  unfold fX1_init at hf
  refine jw_aload_n C dX1_init_0 rfl (hl.at 0 rfl) ?_
  obtain ⟨u1, h1, hf⟩ := jm_rd_ok hf
  refine jw_objInit C h1 hl.1 (jm_w C 1 rfl) (jm_w C 2 rfl) (jm_w C 3 rfl) dX1_init_1 (Nat.le_of_ble_eq_true rfl) (Nat.le_of_ble_eq_true rfl) (Nat.le_of_ble_eq_true rfl) ?_
  refine jw_aload_n C dX1_init_4 rfl (hl.at 0 rfl) ?_
  obtain ⟨q2, S2, h2, hf⟩ := jm_bd_ok hf
  have e2 := jm_new_st h2
  have g2 := jm_mo hf (jm_Mo_bd (moJx4a65c_init_da8c8 _) (fun _ => jm_Mo_wr jm_p_st (jm_Mo_wr jm_p_st (jm_Mo_bd jm_Mo_new (fun _ => jm_Mo_bd (moX4_init _ _) (fun _ => jm_Mo_wr jm_p_st (jm_Mo_ret _)))))))
  simp only [List.length_cons, List.length_nil] at e2
  refine jw_new (Cn := RJx4a65c) (T := TJx4a65c) (N := 3) C hJ hS h2 rfl inX1_init_Jx4a65c tyJx4a65c tyJx4a65c_ok (by decide +kernel) rfl (jm_w C 4 rfl) (jm_w C 5 rfl) (jm_w C 6 rfl) (by show cells + 1 ≤ mc; omega) (by show slots + 3 ≤ ms; omega) dX1_init_5 (fun H hJ hS => ?_)
  replace hc1 : cells + 1 + n0 ≤ S2.2.1 := by omega
  replace hc2 : slots + 3 + m0 ≤ S2.2.2.1 := by omega
  generalize cells + 1 = cells at hc1 ⊢
  generalize slots + 3 = slots at hc2 ⊢
  refine lv_dup C.1 C.2.1 dX1_init_8 (jm_catr _) ?_
  obtain ⟨v3, S3, h3, hf⟩ := jm_bd_ok hf
  have e3 := moJx4a65c_init_da8c8 q2 _ _ _ h3
  have g3 := jm_mo hf (jm_Mo_wr jm_p_st (jm_Mo_wr jm_p_st (jm_Mo_bd jm_Mo_new (fun _ => jm_Mo_bd (moX4_init _ _) (fun _ => jm_Mo_wr jm_p_st (jm_Mo_ret _))))))
  refine jw_cI C hJ hS (cJx4a65c_init_da8c8_C l G q2 h3) (cwI 0 C.2.2.2.2.1 gX1_init_Jx4a65c_init_da8c8 rfl rfl rfl (jm_w C 6 rfl) (jm_w C 13 rfl) (jm_w C 14 rfl) rfl (by decide +kernel) ⟨Nat.le_of_ble_eq_true rfl, Nat.le_of_ble_eq_true rfl⟩) rfl hl.1 rfl (Nat.le_of_ble_eq_true rfl) dX1_init_9 ⟨by show cells + 0 ≤ mc; omega, by show slots + 0 ≤ ms; omega⟩ (fun H locs hJ hS => ?_)
  replace hc1 : cells + 0 + n0 ≤ S3.2.1 := by omega
  replace hc2 : slots + 0 + m0 ≤ S3.2.2.1 := by omega
  generalize cells + 0 = cells at hc1 ⊢
  generalize slots + 0 = slots at hc2 ⊢
  obtain ⟨S4, h4, hf⟩ := jm_wr_ok hf
  have e4 := jm_p_st _ _ h4
  rw [← e4] at hc1 hc2
  refine jw_pF (x := .inr (some q2)) (ty := (.object "java/util/ArrayList")) (Cn := RX1) (T := TX1) (N := 7) C hJ hS h4 rfl inX1_init_X1 tyX1 tyX1_ok nmX1 (by decide) (jm_w C 7 rfl) (fun _ h => h) rfl hi rfl (by decide +kernel) (jm_nr _ (some q2)).1 (jm_nr _ (some q2)).2 dX1_init_12 (fun H locs hJ hS => ?_)
  refine jw_aload_n C dX1_init_15 rfl (hl.at 0 rfl) ?_
  refine lv_iload_n C.1 C.2.1 dX1_init_16 rfl (hl.at 1 rfl) ?_
  obtain ⟨S5, h5, hf⟩ := jm_wr_ok hf
  have e5 := jm_p_st _ _ h5
  rw [← e5] at hc1 hc2
  refine jw_pF (x := .inl x1) (ty := .int) (Cn := RX1) (T := TX1) (N := 7) C hJ hS h5 rfl inX1_init_X1 tyX1 tyX1_ok nmX1 (by decide) (jm_w C 8 rfl) (fun _ h => h) rfl hi rfl (by decide +kernel) rfl rfl dX1_init_17 (fun H locs hJ hS => ?_)
  refine jw_aload_n C dX1_init_20 rfl (hl.at 0 rfl) ?_
  obtain ⟨q6, S6, h6, hf⟩ := jm_bd_ok hf
  have e6 := jm_new_st h6
  have g6 := jm_mo hf (jm_Mo_bd (moX4_init _ _) (fun _ => jm_Mo_wr jm_p_st (jm_Mo_ret _)))
  simp only [List.length_cons, List.length_nil] at e6
  refine jw_new (Cn := RX4) (T := TX4) (N := 2) C hJ hS h6 rfl inX1_init_X4 tyX4 tyX4_ok (by decide +kernel) rfl (jm_w C 9 rfl) (jm_w C 10 rfl) (jm_w C 11 rfl) (by show cells + 1 ≤ mc; omega) (by show slots + 2 ≤ ms; omega) dX1_init_21 (fun H hJ hS => ?_)
  replace hc1 : cells + 1 + n0 ≤ S6.2.1 := by omega
  replace hc2 : slots + 2 + m0 ≤ S6.2.2.1 := by omega
  generalize cells + 1 = cells at hc1 ⊢
  generalize slots + 2 = slots at hc2 ⊢
  refine lv_dup C.1 C.2.1 dX1_init_24 (jm_catr _) ?_
  refine lv_iload_n C.1 C.2.1 dX1_init_25 rfl (hl.at 1 rfl) ?_
  obtain ⟨v7, S7, h7, hf⟩ := jm_bd_ok hf
  have e7 := moX4_init q6 x1 _ _ _ h7
  have g7 := jm_mo hf (jm_Mo_wr jm_p_st (jm_Mo_ret _))
  refine jw_cI C hJ hS (cX4_init_C l G q6 x1 h7 (S7.2.1 - S6.2.1) (S7.2.2.1 - S6.2.2.1) (by omega) (by omega)) (cwI 1 C.2.2.2.2.1 gX1_init_X4_init rfl rfl rfl (jm_w C 11 rfl) (jm_w C 28 rfl) (jm_w C 29 rfl) rfl (by decide +kernel) ⟨Nat.le_of_ble_eq_true rfl, Nat.le_of_ble_eq_true rfl⟩) rfl hl.1 rfl (Nat.le_of_ble_eq_true rfl) dX1_init_26 ⟨by show cells + _ ≤ mc; omega, by show slots + _ ≤ ms; omega⟩ (fun H locs hJ hS => ?_)
  replace hc1 : cells + (S7.2.1 - S6.2.1) + n0 ≤ S7.2.1 := by omega
  replace hc2 : slots + (S7.2.2.1 - S6.2.2.1) + m0 ≤ S7.2.2.1 := by omega
  generalize cells + (S7.2.1 - S6.2.1) = cells at hc1 ⊢
  generalize slots + (S7.2.2.1 - S6.2.2.1) = slots at hc2 ⊢
  obtain ⟨S8, h8, hf⟩ := jm_wr_ok hf
  have e8 := jm_p_st _ _ h8
  rw [← e8] at hc1 hc2
  refine jw_pF (x := .inr (some q6)) (ty := (.object "CoordinationService$Tree")) (Cn := RX1) (T := TX1) (N := 7) C hJ hS h8 rfl inX1_init_X1 tyX1 tyX1_ok nmX1 (by decide) (jm_w C 12 rfl) (fun _ h => h) rfl hi rfl (by decide +kernel) (jm_nr _ (some q6)).1 (jm_nr _ (some q6)).2 dX1_init_29 (fun H locs hJ hS => ?_)
  obtain ⟨rfl, rfl⟩ := jm_ret_ok hf
  exact jw_rv C hJ hS (by omega) (by omega) dX1_init_32
set_option maxHeartbeats 4000000 in
set_option maxRecDepth 100000 in
theorem cX1_init_C (l : Launch) (G : jm_G) (h0 : Nat) (x1 : Int32) {S Sf : jm_S} {rv : Unit} (hf : fX1_init h0 x1 S = some (rv, Sf)) (mc ms : Nat) (hr1 : Sf.2.1 ≤ S.2.1 + mc) (hr2 : Sf.2.2.1 ≤ S.2.2.1 + ms) : Met l yX1_init wsX1_init ({ frames := 4, cells := mc, slots := ms, locals := 80 } : Room) (jm_Pc G S [.ref h0, .int x1]) (jm_Q G (none) Sf) mc ms (jm_A G) := by
  refine Met.ofW (cc := cX1_init) (maxL := 2) (ret := none) (by decide) rfl ?_
  intro p e s m args below meth c s₁ B hml hv
  obtain ⟨rfl, hJ, hX⟩ := hv
  have C : jm_C G cX1_init 2 RX1 wsX1_init (none) p s m _ meth c := ⟨B.exec, B.bytes, hml, findClass_of_methodNamed B.named, atoms_spec (ws := wsX1_init) B.pre, B.returns, B.notSynchronized, hX⟩
  have hi : meth.name = "<init>" := (name_of_methodNamed B.named B.method).1
  obtain ⟨ls, he, hl⟩ := jm_entry m [.inr (some h0), .inl x1] (n := 2) (Nat.le_of_ble_eq_true rfl)
  have he : entryFrame m ([.ref h0, .int x1] : List Value).toArray 2 = F0 m 0 ls [] := he
  rw [he]
  exact kX1_init C hi (n0 := S.2.1) (m0 := S.2.2.1) hr1 hr2 h0 x1 hf hJ va_S.rf (hl.sub [0, 1] rfl) (by omega) (by omega)
/-! CoordinationService$Session.<init> -/
def fX2_init (h0 : Nat) (x1 : Int32) : jm_P Unit := jm_rd (jm_nn (some h0)) fun _ => jm_bd (jm_na 0 8) fun q2 => jm_wr (jm_p (some h0) 3 2 (.inr q2)) <| jm_wr (jm_p (some h0) 3 0 (.inl x1)) <| jm_ret ()
theorem inX2_init_X2 : ∀ w ∈ wsX20, w ∈ wsX2_init := fun _ h => List.mem_cons_of_mem _ (List.mem_append_right _ h)
theorem moX2_init (h0 : Nat) (x1 : Int32) : jm_Mo (fX2_init h0 x1) := by
  unfold fX2_init
  exact jm_Mo_rd (fun _ => jm_Mo_bd jm_Mo_na (fun _ => jm_Mo_wr jm_p_st (jm_Mo_wr jm_p_st (jm_Mo_ret _))))
set_option maxHeartbeats 4000000 in
set_option maxRecDepth 100000 in
theorem kX2_init {rv : Unit} {Sf : jm_S} (C : jm_C G cX2_init 2 RX2 wsX2_init (none) p s m args meth c) (hi : meth.name = "<init>") {n0 m0 mc ms : Nat} (hr1 : Sf.2.1 ≤ n0 + mc) (hr2 : Sf.2.2.1 ≤ m0 + ms) : ∀ (h0 : Nat) (x1 : Int32) {S : jm_S} {H : Heap} {locs : List Loc} {ls : Array Slot} {cells slots : Nat}, fX2_init h0 x1 S = some (rv, Sf) → jm_J G S H → va_S (jm_A G) s.heap H locs → jm_L ls 2 [(0, .inr (some h0)), (1, .inl x1)] → cells + n0 ≤ S.2.1 → slots + m0 ≤ S.2.2.1 → W p l e ({ frames := 1, cells := mc, slots := ms, locals := 20 } : Room) s m args below meth c H locs cells slots (MQ below (jm_Q G (none) Sf) args s mc ms (jm_A G)) (F0 m 0 ls []) := by
  intro h0 x1 S H locs ls cells slots hf hJ hS hl hc1 hc2
  unfold fX2_init at hf
  refine jw_aload_n C dX2_init_0 rfl (hl.at 0 rfl) ?_
  obtain ⟨u1, h1, hf⟩ := jm_rd_ok hf
  refine jw_objInit C h1 hl.1 (jm_w C 1 rfl) (jm_w C 2 rfl) (jm_w C 3 rfl) dX2_init_1 (Nat.le_of_ble_eq_true rfl) (Nat.le_of_ble_eq_true rfl) (Nat.le_of_ble_eq_true rfl) ?_
  refine jw_aload_n C dX2_init_4 rfl (hl.at 0 rfl) ?_
  refine lv_bipush (v := 8) C.1 C.2.1 dX2_init_5 (by decide) ?_
  obtain ⟨q2, S2, h2, hf⟩ := jm_bd_ok hf
  have e2 := jm_na_st h2
  have g2 := jm_mo hf (jm_Mo_wr jm_p_st (jm_Mo_wr jm_p_st (jm_Mo_ret _)))
  refine jw_naI C hJ hS h2 (jm_w C 4 rfl) (by show cells + 1 ≤ mc; omega) (by show slots + _ ≤ ms; omega) dX2_init_7 (fun H hJ hS => ?_)
  replace hc1 : cells + 1 + n0 ≤ S2.2.1 := by omega
  replace hc2 : slots + (8 : Int32).toNatClampNeg + m0 ≤ S2.2.2.1 := by omega
  generalize cells + 1 = cells at hc1 ⊢
  generalize slots + (8 : Int32).toNatClampNeg = slots at hc2 ⊢
  obtain ⟨S3, h3, hf⟩ := jm_wr_ok hf
  have e3 := jm_p_st _ _ h3
  rw [← e3] at hc1 hc2
  refine jw_pF (x := .inr q2) (ty := (.array .int)) (Cn := RX2) (T := TX2) (N := 3) C hJ hS h3 rfl inX2_init_X2 tyX2 tyX2_ok nmX2 (by decide) (jm_w C 5 rfl) (fun _ h => h) rfl hi rfl (by decide +kernel) (jm_nra _ q2).1 (jm_nra _ q2).2 dX2_init_9 (fun H locs hJ hS => ?_)
  refine jw_aload_n C dX2_init_12 rfl (hl.at 0 rfl) ?_
  refine lv_iload_n C.1 C.2.1 dX2_init_13 rfl (hl.at 1 rfl) ?_
  obtain ⟨S4, h4, hf⟩ := jm_wr_ok hf
  have e4 := jm_p_st _ _ h4
  rw [← e4] at hc1 hc2
  refine jw_pF (x := .inl x1) (ty := .int) (Cn := RX2) (T := TX2) (N := 3) C hJ hS h4 rfl inX2_init_X2 tyX2 tyX2_ok nmX2 (by decide) (jm_w C 6 rfl) (fun _ h => h) rfl hi rfl (by decide +kernel) rfl rfl dX2_init_14 (fun H locs hJ hS => ?_)
  obtain ⟨rfl, rfl⟩ := jm_ret_ok hf
  exact jw_rv C hJ hS (by omega) (by omega) dX2_init_17
set_option maxHeartbeats 4000000 in
set_option maxRecDepth 100000 in
theorem cX2_init_C (l : Launch) (G : jm_G) (h0 : Nat) (x1 : Int32) {S Sf : jm_S} {rv : Unit} (hf : fX2_init h0 x1 S = some (rv, Sf)) (mc ms : Nat) (hr1 : Sf.2.1 ≤ S.2.1 + mc) (hr2 : Sf.2.2.1 ≤ S.2.2.1 + ms) : Met l yX2_init wsX2_init ({ frames := 1, cells := mc, slots := ms, locals := 20 } : Room) (jm_Pc G S [.ref h0, .int x1]) (jm_Q G (none) Sf) mc ms (jm_A G) := by
  refine Met.ofW (cc := cX2_init) (maxL := 2) (ret := none) (by decide) rfl ?_
  intro p e s m args below meth c s₁ B hml hv
  obtain ⟨rfl, hJ, hX⟩ := hv
  have C : jm_C G cX2_init 2 RX2 wsX2_init (none) p s m _ meth c := ⟨B.exec, B.bytes, hml, findClass_of_methodNamed B.named, atoms_spec (ws := wsX2_init) B.pre, B.returns, B.notSynchronized, hX⟩
  have hi : meth.name = "<init>" := (name_of_methodNamed B.named B.method).1
  obtain ⟨ls, he, hl⟩ := jm_entry m [.inr (some h0), .inl x1] (n := 2) (Nat.le_of_ble_eq_true rfl)
  have he : entryFrame m ([.ref h0, .int x1] : List Value).toArray 2 = F0 m 0 ls [] := he
  rw [he]
  exact kX2_init C hi (n0 := S.2.1) (m0 := S.2.2.1) hr1 hr2 h0 x1 hf hJ va_S.rf (hl.sub [0, 1] rfl) (by omega) (by omega)
/-! CoordinationService$Tree.clear -/
def fX4_clear_10 : Nat → Option Nat → Int32 → Int32 → jm_P Unit
  | 0, _, _, _ => jm_no
  | n + 1, x1, x2, x3 => (if x2 ≤ x3 then jm_ret () else jm_rd (jm_gq x1 2 x3) fun v4 => jm_wr (jm_p v4 1 0 (.inl (-1))) <| fX4_clear_10 n x1 x2 (x3 + 1))
def fX4_clear (h0 : Nat) : jm_P Unit := jm_rd (jm_gR (some h0) 5 1) fun v1 => jm_rd (jm_lq v1 2) fun v2 => fX4_clear_10 4096 v1 v2 0
theorem inX4_clear_X4 : ∀ w ∈ wsX40, w ∈ wsX4_clear := fun _ h => List.mem_cons_of_mem _ (List.mem_append_left _ (List.mem_append_right _ h))
theorem inX4_clear_X0 : ∀ w ∈ wsX00, w ∈ wsX4_clear := fun _ h => List.mem_cons_of_mem _ (List.mem_append_right _ h)
theorem moX4_clear_10 : ∀ (n : Nat) (x1 : Option Nat) (x2 : Int32) (x3 : Int32), jm_Mo (fX4_clear_10 n x1 x2 x3) := by
  intro n
  induction n with
  | zero =>
    intro x1 x2 x3
    rw [fX4_clear_10]
    exact jm_Mo_no
  | succ n ih =>
    intro x1 x2 x3
    rw [fX4_clear_10]
    exact jm_Mo_if (jm_Mo_ret _) (jm_Mo_rd (fun _ => jm_Mo_wr jm_p_st (ih _ _ _)))
set_option maxHeartbeats 4000000 in
set_option maxRecDepth 100000 in
theorem kX4_clear_10 {rv : Unit} {Sf : jm_S} (C : jm_C G cX4_clear 5 RX4 wsX4_clear (none) p s m args meth c) : ∀ (n : Nat) (x1 : Option Nat) (x2 : Int32) (x3 : Int32) {S : jm_S} {H : Heap} {locs : List Loc} {ls : Array Slot}, fX4_clear_10 n x1 x2 x3 S = some (rv, Sf) → jm_J G S H → va_S (jm_A G) s.heap H locs → jm_L ls 5 [(1, .inr x1), (2, .inl x2), (3, .inl x3)] → W p l e ({ frames := 0, cells := 0, slots := 0, locals := 0 } : Room) s m args below meth c H locs 0 0 (MQ below (jm_Q G (none) Sf) args s 0 0 (jm_A G)) (F0 m 10 ls []) := by
  intro n
  induction n with
  | zero =>
    intro x1 x2 x3 S H locs ls hf
    rw [fX4_clear_10] at hf
    exact absurd hf (fun h => jm_no_ok h)
  | succ n ih =>
    intro x1 x2 x3 S H locs ls hf hJ hS hl
    rw [fX4_clear_10] at hf
    refine lv_iload_n C.1 C.2.1 dX4_clear_10 rfl (hl.at 2 rfl) ?_
    refine lv_iload_n C.1 C.2.1 dX4_clear_11 rfl (hl.at 1 rfl) ?_
    refine lv_icmp_ge (tgt := 32) C.1 C.2.1 dX4_clear_12 (by decide) (fun hq3 => ?_) (fun hq3 => ?_)
    · replace hf := jm_ift hf hq3
      obtain ⟨rfl, rfl⟩ := jm_ret_ok hf
      exact jw_rv C hJ hS (Nat.le_refl _) (Nat.le_refl _) dX4_clear_32
    · replace hf := jm_iff hf hq3
      refine jw_aload_n C dX4_clear_15 rfl (hl.at 0 rfl) ?_
      refine lv_iload_n C.1 C.2.1 dX4_clear_16 rfl (hl.at 2 rfl) ?_
      obtain ⟨v4, h4, hf⟩ := jm_rd_ok hf
      refine jw_aaload C hJ h4 (by decide) rfl dX4_clear_17 ?_
      refine jw_astore C dX4_clear_18 hl (by decide) rfl (fun ls hl => ?_)
      refine jw_aload C dX4_clear_20 (hl.at 0 rfl) ?_
      refine lv_iconst (v := (-1)) C.1 C.2.1 dX4_clear_22 (by decide) ?_
      obtain ⟨S5, h5, hf⟩ := jm_wr_ok hf
      refine jw_p (x := .inl (-1)) (ty := .int) (Cn := RX0) (T := TX0) (N := 4) C hJ hS h5 rfl inX4_clear_X0 tyX0 tyX0_ok nmX0 (by decide) (jm_w C 2 rfl) (fun _ h => h) rfl (by decide +kernel) rfl rfl dX4_clear_23 (fun H locs hJ hS => ?_)
      refine jw_iinc (v := x3 + 1) C 3 dX4_clear_26 hl rfl (by rfl) (by decide) rfl (fun ls hl => ?_)
      refine lv_goto (tgt := 10) C.1 C.2.1 dX4_clear_29 (by decide) ?_
      exact ih x1 x2 (x3 + 1) hf hJ hS (hl.sub [2, 3, 0] rfl)
theorem moX4_clear (h0 : Nat) : jm_Mo (fX4_clear h0) := by
  unfold fX4_clear
  exact jm_Mo_rd (fun _ => jm_Mo_rd (fun _ => moX4_clear_10 _ _ _ _))
set_option maxHeartbeats 4000000 in
set_option maxRecDepth 100000 in
theorem kX4_clear {rv : Unit} {Sf : jm_S} (C : jm_C G cX4_clear 5 RX4 wsX4_clear (none) p s m args meth c) : ∀ (h0 : Nat) {S : jm_S} {H : Heap} {locs : List Loc} {ls : Array Slot}, fX4_clear h0 S = some (rv, Sf) → jm_J G S H → va_S (jm_A G) s.heap H locs → jm_L ls 5 [(0, .inr (some h0))] → W p l e ({ frames := 0, cells := 0, slots := 0, locals := 0 } : Room) s m args below meth c H locs 0 0 (MQ below (jm_Q G (none) Sf) args s 0 0 (jm_A G)) (F0 m 0 ls []) := by
  intro h0 S H locs ls hf hJ hS hl
  unfold fX4_clear at hf
  refine jw_aload_n C dX4_clear_0 rfl (hl.at 0 rfl) ?_
  obtain ⟨v1, h1, hf⟩ := jm_rd_ok hf
  refine jw_gR (Cn := RX4) (T := TX4) (N := 2) C hJ h1 rfl inX4_clear_X4 (by decide) (jm_w C 1 rfl) (fun _ h => h) dX4_clear_1 ?_
  refine jw_astore_n C dX4_clear_4 rfl hl (by decide) rfl (fun ls hl => ?_)
  refine jw_aload_n C dX4_clear_5 rfl (hl.at 0 rfl) ?_
  obtain ⟨v2, h2, hf⟩ := jm_rd_ok hf
  refine jw_lq C hJ hS h2 (by decide) rfl dX4_clear_6 ?_
  refine jw_istore_n C dX4_clear_7 rfl hl (by decide) rfl (fun ls hl => ?_)
  refine lv_iconst (v := 0) C.1 C.2.1 dX4_clear_8 (by decide) ?_
  refine jw_istore_n C dX4_clear_9 rfl hl (by decide) rfl (fun ls hl => ?_)
  exact kX4_clear_10 C 4096 v1 v2 0 hf hJ hS (hl.sub [2, 1, 0] rfl)
set_option maxHeartbeats 4000000 in
set_option maxRecDepth 100000 in
theorem cX4_clear_C (l : Launch) (G : jm_G) (h0 : Nat) {S Sf : jm_S} {rv : Unit} (hf : fX4_clear h0 S = some (rv, Sf)) : Met l yX4_clear wsX4_clear ({ frames := 0, cells := 0, slots := 0, locals := 0 } : Room) (jm_Pc G S [.ref h0]) (jm_Q G (none) Sf) 0 0 (jm_A G) := by
  refine Met.ofW (cc := cX4_clear) (maxL := 5) (ret := none) (by decide) rfl ?_
  intro p e s m args below meth c s₁ B hml hv
  obtain ⟨rfl, hJ, hX⟩ := hv
  have C : jm_C G cX4_clear 5 RX4 wsX4_clear (none) p s m _ meth c := ⟨B.exec, B.bytes, hml, findClass_of_methodNamed B.named, atoms_spec (ws := wsX4_clear) B.pre, B.returns, B.notSynchronized, hX⟩
  obtain ⟨ls, he, hl⟩ := jm_entry m [.inr (some h0)] (n := 5) (Nat.le_of_ble_eq_true rfl)
  have he : entryFrame m ([.ref h0] : List Value).toArray 5 = F0 m 0 ls [] := he
  rw [he]
  exact kX4_clear C h0 hf hJ va_S.rf (hl.sub [0] rfl)
/-! CoordinationService$Server.startAnew -/
def fX1_startAnew (h0 : Nat) (x1 : Int32) : jm_P Unit := jm_rd (jm_gR (some h0) 2 2) fun v1 => jm_rd (jm_o v1 0) fun a2 => jm_bd (fJx4a65c_clear_da8c8 a2) fun _ => jm_rd (jm_gR (some h0) 2 1) fun v3 => jm_rd (jm_o v3 5) fun a4 => jm_bd (fX4_clear a4) fun _ => jm_rd (jm_z x1) fun _ => jm_wr (jm_p (some h0) 2 3 (.inl x1)) <| jm_rd (jm_z 0) fun _ => jm_wr (jm_p (some h0) 2 4 (.inl 0)) <| jm_wr (jm_p (some h0) 2 5 (.inl 0)) <| jm_wr (jm_p (some h0) 2 6 (.inl 0)) <| jm_ret ()
theorem inX1_startAnew_X1 : ∀ w ∈ wsX10, w ∈ wsX1_startAnew := fun _ h => List.mem_cons_of_mem _ (List.mem_append_left _ (List.mem_append_left _ (List.mem_append_left _ (List.mem_append_right _ h))))
theorem moX1_startAnew (h0 : Nat) (x1 : Int32) : jm_Mo (fX1_startAnew h0 x1) := by
  unfold fX1_startAnew
  exact jm_Mo_rd (fun _ => jm_Mo_rd (fun _ => jm_Mo_bd (moJx4a65c_clear_da8c8 _) (fun _ => jm_Mo_rd (fun _ => jm_Mo_rd (fun _ => jm_Mo_bd (moX4_clear _) (fun _ => jm_Mo_rd (fun _ => jm_Mo_wr jm_p_st (jm_Mo_rd (fun _ => jm_Mo_wr jm_p_st (jm_Mo_wr jm_p_st (jm_Mo_wr jm_p_st (jm_Mo_ret _))))))))))))
set_option maxHeartbeats 4000000 in
set_option maxRecDepth 100000 in
theorem kX1_startAnew {rv : Unit} {Sf : jm_S} (C : jm_C G cX1_startAnew 2 RX1 wsX1_startAnew (none) p s m args meth c) : ∀ (h0 : Nat) (x1 : Int32) {S : jm_S} {H : Heap} {locs : List Loc} {ls : Array Slot}, fX1_startAnew h0 x1 S = some (rv, Sf) → jm_J G S H → va_S (jm_A G) s.heap H locs → jm_L ls 2 [(0, .inr (some h0)), (1, .inl x1)] → W p l e ({ frames := 1, cells := 0, slots := 0, locals := 24 } : Room) s m args below meth c H locs 0 0 (MQ below (jm_Q G (none) Sf) args s 0 0 (jm_A G)) (F0 m 0 ls []) := by
  intro h0 x1 S H locs ls hf hJ hS hl
  unfold fX1_startAnew at hf
  refine jw_aload_n C dX1_startAnew_0 rfl (hl.at 0 rfl) ?_
  obtain ⟨v1, h1, hf⟩ := jm_rd_ok hf
  refine jw_gR (Cn := RX1) (T := TX1) (N := 7) C hJ h1 rfl inX1_startAnew_X1 (by decide) (jm_w C 1 rfl) (fun _ h => h) dX1_startAnew_1 ?_
  obtain ⟨a2, o2, hf⟩ := jm_rd_ok hf
  obtain ⟨v2, S2, h2, hf⟩ := jm_bd_ok hf
  refine jw_cV (q := (RJx4a65c, TJx4a65c, 3)) C hJ hS o2 rfl (cJx4a65c_clear_da8c8_C l G a2 h2) (cwV 0 C.2.2.2.2.1 gX1_startAnew_Jx4a65c_clear_da8c8 rfl rfl rfl (by decide +kernel) ⟨Nat.le_of_ble_eq_true rfl, Nat.le_of_ble_eq_true rfl⟩) rfl hl.1 rfl (Nat.le_of_ble_eq_true rfl) dX1_startAnew_4 ⟨Nat.le_refl _, Nat.le_refl _⟩ (fun H locs hJ hS => ?_)
  refine jw_aload_n C dX1_startAnew_7 rfl (hl.at 0 rfl) ?_
  obtain ⟨v3, h3, hf⟩ := jm_rd_ok hf
  refine jw_gR (Cn := RX1) (T := TX1) (N := 7) C hJ h3 rfl inX1_startAnew_X1 (by decide) (jm_w C 2 rfl) (fun _ h => h) dX1_startAnew_8 ?_
  obtain ⟨a4, o4, hf⟩ := jm_rd_ok hf
  obtain ⟨v4, S4, h4, hf⟩ := jm_bd_ok hf
  refine jw_cV (q := (RX4, TX4, 2)) C hJ hS o4 rfl (cX4_clear_C l G a4 h4) (cwV 0 C.2.2.2.2.1 gX1_startAnew_X4_clear rfl rfl rfl (by decide +kernel) ⟨Nat.le_of_ble_eq_true rfl, Nat.le_of_ble_eq_true rfl⟩) rfl hl.1 rfl (Nat.le_of_ble_eq_true rfl) dX1_startAnew_11 ⟨Nat.le_refl _, Nat.le_refl _⟩ (fun H locs hJ hS => ?_)
  refine jw_aload_n C dX1_startAnew_14 rfl (hl.at 0 rfl) ?_
  refine lv_iload_n C.1 C.2.1 dX1_startAnew_15 rfl (hl.at 1 rfl) ?_
  obtain ⟨u5, z5, hf⟩ := jm_rd_ok hf
  obtain ⟨S5, h5, hf⟩ := jm_wr_ok hf
  refine jw_p (x := .inl x1) (ty := .boolean) (Cn := RX1) (T := TX1) (N := 7) C hJ hS h5 rfl inX1_startAnew_X1 tyX1 tyX1_ok nmX1 (by decide) (jm_w C 3 rfl) (fun _ h => h) rfl (by decide +kernel) (jm_nz z5).1 (jm_nz z5).2.1 dX1_startAnew_16 (fun H locs hJ hS => ?_)
  refine jw_aload_n C dX1_startAnew_19 rfl (hl.at 0 rfl) ?_
  refine lv_iconst (v := 0) C.1 C.2.1 dX1_startAnew_20 (by decide) ?_
  obtain ⟨u6, z6, hf⟩ := jm_rd_ok hf
  obtain ⟨S6, h6, hf⟩ := jm_wr_ok hf
  refine jw_p (x := .inl 0) (ty := .boolean) (Cn := RX1) (T := TX1) (N := 7) C hJ hS h6 rfl inX1_startAnew_X1 tyX1 tyX1_ok nmX1 (by decide) (jm_w C 4 rfl) (fun _ h => h) rfl (by decide +kernel) (jm_nz z6).1 (jm_nz z6).2.1 dX1_startAnew_21 (fun H locs hJ hS => ?_)
  refine jw_aload_n C dX1_startAnew_24 rfl (hl.at 0 rfl) ?_
  refine lv_iconst (v := 0) C.1 C.2.1 dX1_startAnew_25 (by decide) ?_
  obtain ⟨S7, h7, hf⟩ := jm_wr_ok hf
  refine jw_p (x := .inl 0) (ty := .int) (Cn := RX1) (T := TX1) (N := 7) C hJ hS h7 rfl inX1_startAnew_X1 tyX1 tyX1_ok nmX1 (by decide) (jm_w C 5 rfl) (fun _ h => h) rfl (by decide +kernel) rfl rfl dX1_startAnew_26 (fun H locs hJ hS => ?_)
  refine jw_aload_n C dX1_startAnew_29 rfl (hl.at 0 rfl) ?_
  refine lv_iconst (v := 0) C.1 C.2.1 dX1_startAnew_30 (by decide) ?_
  obtain ⟨S8, h8, hf⟩ := jm_wr_ok hf
  refine jw_p (x := .inl 0) (ty := .int) (Cn := RX1) (T := TX1) (N := 7) C hJ hS h8 rfl inX1_startAnew_X1 tyX1 tyX1_ok nmX1 (by decide) (jm_w C 6 rfl) (fun _ h => h) rfl (by decide +kernel) rfl rfl dX1_startAnew_31 (fun H locs hJ hS => ?_)
  obtain ⟨rfl, rfl⟩ := jm_ret_ok hf
  exact jw_rv C hJ hS (Nat.le_refl _) (Nat.le_refl _) dX1_startAnew_34
set_option maxHeartbeats 4000000 in
set_option maxRecDepth 100000 in
theorem cX1_startAnew_C (l : Launch) (G : jm_G) (h0 : Nat) (x1 : Int32) {S Sf : jm_S} {rv : Unit} (hf : fX1_startAnew h0 x1 S = some (rv, Sf)) : Met l yX1_startAnew wsX1_startAnew ({ frames := 1, cells := 0, slots := 0, locals := 24 } : Room) (jm_Pc G S [.ref h0, .int x1]) (jm_Q G (none) Sf) 0 0 (jm_A G) := by
  refine Met.ofW (cc := cX1_startAnew) (maxL := 2) (ret := none) (by decide) rfl ?_
  intro p e s m args below meth c s₁ B hml hv
  obtain ⟨rfl, hJ, hX⟩ := hv
  have C : jm_C G cX1_startAnew 2 RX1 wsX1_startAnew (none) p s m _ meth c := ⟨B.exec, B.bytes, hml, findClass_of_methodNamed B.named, atoms_spec (ws := wsX1_startAnew) B.pre, B.returns, B.notSynchronized, hX⟩
  obtain ⟨ls, he, hl⟩ := jm_entry m [.inr (some h0), .inl x1] (n := 2) (Nat.le_of_ble_eq_true rfl)
  have he : entryFrame m ([.ref h0, .int x1] : List Value).toArray 2 = F0 m 0 ls [] := he
  rw [he]
  exact kX1_startAnew C h0 x1 hf hJ va_S.rf (hl.sub [0, 1] rfl)
/-! CoordinationService$Watches.dropAll -/
def fX6_dropAll (h0 : Nat) : jm_P Unit := jm_rd (jm_gR (some h0) 7 0) fun v1 => jm_rd (jm_o v1 0) fun a2 => jm_bd (fJx4a65c_clear_da8c8 a2) fun _ => jm_ret ()
theorem inX6_dropAll_X6 : ∀ w ∈ wsX60, w ∈ wsX6_dropAll := fun _ h => List.mem_cons_of_mem _ (List.mem_append_left _ (List.mem_append_right _ h))
theorem moX6_dropAll (h0 : Nat) : jm_Mo (fX6_dropAll h0) := by
  unfold fX6_dropAll
  exact jm_Mo_rd (fun _ => jm_Mo_rd (fun _ => jm_Mo_bd (moJx4a65c_clear_da8c8 _) (fun _ => jm_Mo_ret _)))
set_option maxHeartbeats 4000000 in
set_option maxRecDepth 100000 in
theorem kX6_dropAll {rv : Unit} {Sf : jm_S} (C : jm_C G cX6_dropAll 1 RX6 wsX6_dropAll (none) p s m args meth c) : ∀ (h0 : Nat) {S : jm_S} {H : Heap} {locs : List Loc} {ls : Array Slot}, fX6_dropAll h0 S = some (rv, Sf) → jm_J G S H → va_S (jm_A G) s.heap H locs → jm_L ls 1 [(0, .inr (some h0))] → W p l e ({ frames := 1, cells := 0, slots := 0, locals := 23 } : Room) s m args below meth c H locs 0 0 (MQ below (jm_Q G (none) Sf) args s 0 0 (jm_A G)) (F0 m 0 ls []) := by
  intro h0 S H locs ls hf hJ hS hl
  unfold fX6_dropAll at hf
  refine jw_aload_n C dX6_dropAll_0 rfl (hl.at 0 rfl) ?_
  obtain ⟨v1, h1, hf⟩ := jm_rd_ok hf
  refine jw_gR (Cn := RX6) (T := TX6) (N := 1) C hJ h1 rfl inX6_dropAll_X6 (by decide) (jm_w C 1 rfl) (fun _ h => h) dX6_dropAll_1 ?_
  obtain ⟨a2, o2, hf⟩ := jm_rd_ok hf
  obtain ⟨v2, S2, h2, hf⟩ := jm_bd_ok hf
  refine jw_cV (q := (RJx4a65c, TJx4a65c, 3)) C hJ hS o2 rfl (cJx4a65c_clear_da8c8_C l G a2 h2) (cwV 0 C.2.2.2.2.1 gX6_dropAll_Jx4a65c_clear_da8c8 rfl rfl rfl (by decide +kernel) ⟨Nat.le_of_ble_eq_true rfl, Nat.le_of_ble_eq_true rfl⟩) rfl hl.1 rfl (Nat.le_of_ble_eq_true rfl) dX6_dropAll_4 ⟨Nat.le_refl _, Nat.le_refl _⟩ (fun H locs hJ hS => ?_)
  obtain ⟨rfl, rfl⟩ := jm_ret_ok hf
  exact jw_rv C hJ hS (Nat.le_refl _) (Nat.le_refl _) dX6_dropAll_7
set_option maxHeartbeats 4000000 in
set_option maxRecDepth 100000 in
theorem cX6_dropAll_C (l : Launch) (G : jm_G) (h0 : Nat) {S Sf : jm_S} {rv : Unit} (hf : fX6_dropAll h0 S = some (rv, Sf)) : Met l yX6_dropAll wsX6_dropAll ({ frames := 1, cells := 0, slots := 0, locals := 23 } : Room) (jm_Pc G S [.ref h0]) (jm_Q G (none) Sf) 0 0 (jm_A G) := by
  refine Met.ofW (cc := cX6_dropAll) (maxL := 1) (ret := none) (by decide) rfl ?_
  intro p e s m args below meth c s₁ B hml hv
  obtain ⟨rfl, hJ, hX⟩ := hv
  have C : jm_C G cX6_dropAll 1 RX6 wsX6_dropAll (none) p s m _ meth c := ⟨B.exec, B.bytes, hml, findClass_of_methodNamed B.named, atoms_spec (ws := wsX6_dropAll) B.pre, B.returns, B.notSynchronized, hX⟩
  obtain ⟨ls, he, hl⟩ := jm_entry m [.inr (some h0)] (n := 1) (Nat.le_of_ble_eq_true rfl)
  have he : entryFrame m ([.ref h0] : List Value).toArray 1 = F0 m 0 ls [] := he
  rw [he]
  exact kX6_dropAll C h0 hf hJ va_S.rf (hl.sub [0] rfl)
/-! CoordinationService.startAnew -/
def fX7_startAnew_16 : Nat → Nat → Int32 → Option Nat → Int32 → Int32 → jm_P Unit
  | 0, _, _, _, _, _ => jm_no
  | n + 1, h0, x1, x2, x3, x4 => (if x3 ≤ x4 then jm_wr (jm_p (some h0) 8 5 (.inl 0)) <| jm_rd (jm_gR (some h0) 8 2) fun v6 => jm_rd (jm_o v6 7) fun a7 => jm_bd (fX6_dropAll a7) fun _ => jm_wr (jm_p (some h0) 8 6 (.inr none)) <| jm_wr (jm_p (some h0) 8 7 (.inl 0)) <| jm_wr (jm_p (some h0) 8 8 (.inl 0)) <| jm_wr (jm_p (some h0) 8 9 (.inl 0)) <| jm_wr (jm_p (some h0) 8 10 (.inl 0)) <| jm_wr (jm_p (some h0) 8 11 (.inl 0)) <| jm_ret () else jm_rd (jm_gq x2 3 x4) fun v14 => jm_rd (jm_gI v14 2 0) fun v15 => (if x1 ≤ v15 then jm_rd (jm_o v14 2) fun a17 => jm_bd (fX1_startAnew a17 0) fun _ => fX7_startAnew_16 n h0 x1 x2 x3 (x4 + 1) else jm_rd (jm_o v14 2) fun a18 => jm_bd (fX1_startAnew a18 1) fun _ => fX7_startAnew_16 n h0 x1 x2 x3 (x4 + 1)))
def fX7_startAnew (h0 : Nat) (x1 : Int32) : jm_P Unit := jm_wr (jm_p (some h0) 8 4 (.inl x1)) <| jm_rd (jm_gR (some h0) 8 0) fun v2 => jm_rd (jm_lq v2 3) fun v3 => fX7_startAnew_16 4096 h0 x1 v2 v3 0
theorem inX7_startAnew_X7 : ∀ w ∈ wsX70, w ∈ wsX7_startAnew := fun _ h => List.mem_cons_of_mem _ (List.mem_append_left _ (List.mem_append_left _ (List.mem_append_left _ (List.mem_append_left _ (List.mem_append_left _ (List.mem_append_right _ h))))))
theorem inX7_startAnew_X1 : ∀ w ∈ wsX10, w ∈ wsX7_startAnew := fun _ h => List.mem_cons_of_mem _ (List.mem_append_left _ (List.mem_append_left _ (List.mem_append_left _ (List.mem_append_left _ (List.mem_append_right _ h)))))
theorem moX7_startAnew_16 : ∀ (n : Nat) (h0 : Nat) (x1 : Int32) (x2 : Option Nat) (x3 : Int32) (x4 : Int32), jm_Mo (fX7_startAnew_16 n h0 x1 x2 x3 x4) := by
  intro n
  induction n with
  | zero =>
    intro h0 x1 x2 x3 x4
    rw [fX7_startAnew_16]
    exact jm_Mo_no
  | succ n ih =>
    intro h0 x1 x2 x3 x4
    rw [fX7_startAnew_16]
    exact jm_Mo_if (jm_Mo_wr jm_p_st (jm_Mo_rd (fun _ => jm_Mo_rd (fun _ => jm_Mo_bd (moX6_dropAll _) (fun _ => jm_Mo_wr jm_p_st (jm_Mo_wr jm_p_st (jm_Mo_wr jm_p_st (jm_Mo_wr jm_p_st (jm_Mo_wr jm_p_st (jm_Mo_wr jm_p_st (jm_Mo_ret _))))))))))) (jm_Mo_rd (fun _ => jm_Mo_rd (fun _ => jm_Mo_if (jm_Mo_rd (fun _ => jm_Mo_bd (moX1_startAnew _ _) (fun _ => ih _ _ _ _ _))) (jm_Mo_rd (fun _ => jm_Mo_bd (moX1_startAnew _ _) (fun _ => ih _ _ _ _ _))))))
set_option maxHeartbeats 4000000 in
set_option maxRecDepth 100000 in
theorem kX7_startAnew_16 {rv : Unit} {Sf : jm_S} (C : jm_C G cX7_startAnew 6 RX7 wsX7_startAnew (none) p s m args meth c) : ∀ (n : Nat) (h0 : Nat) (x1 : Int32) (x2 : Option Nat) (x3 : Int32) (x4 : Int32) {S : jm_S} {H : Heap} {locs : List Loc} {ls : Array Slot}, fX7_startAnew_16 n h0 x1 x2 x3 x4 S = some (rv, Sf) → jm_J G S H → va_S (jm_A G) s.heap H locs → jm_L ls 6 [(0, .inr (some h0)), (1, .inl x1), (2, .inr x2), (3, .inl x3), (4, .inl x4)] → W p l e ({ frames := 2, cells := 0, slots := 0, locals := 45 } : Room) s m args below meth c H locs 0 0 (MQ below (jm_Q G (none) Sf) args s 0 0 (jm_A G)) (F0 m 16 ls []) := by
  intro n
  induction n with
  | zero =>
    intro h0 x1 x2 x3 x4 S H locs ls hf
    rw [fX7_startAnew_16] at hf
    exact absurd hf (fun h => jm_no_ok h)
  | succ n ih =>
    intro h0 x1 x2 x3 x4 S H locs ls hf hJ hS hl
    rw [fX7_startAnew_16] at hf
    refine lv_iload C.1 C.2.1 dX7_startAnew_16 (hl.at 4 rfl) ?_
    refine lv_iload_n C.1 C.2.1 dX7_startAnew_18 rfl (hl.at 3 rfl) ?_
    refine lv_icmp_ge (tgt := 53) C.1 C.2.1 dX7_startAnew_19 (by decide) (fun hq4 => ?_) (fun hq4 => ?_)
    · replace hf := jm_ift hf hq4
      refine jw_aload_n C dX7_startAnew_53 rfl (hl.at 0 rfl) ?_
      refine lv_iconst (v := 0) C.1 C.2.1 dX7_startAnew_54 (by decide) ?_
      obtain ⟨S5, h5, hf⟩ := jm_wr_ok hf
      refine jw_p (x := .inl 0) (ty := .int) (Cn := RX7) (T := TX7) (N := 12) C hJ hS h5 rfl inX7_startAnew_X7 tyX7 tyX7_ok nmX7 (by decide) (jm_w C 4 rfl) (fun _ h => h) rfl (by decide +kernel) rfl rfl dX7_startAnew_55 (fun H locs hJ hS => ?_)
      refine jw_aload_n C dX7_startAnew_58 rfl (hl.at 0 rfl) ?_
      obtain ⟨v6, h6, hf⟩ := jm_rd_ok hf
      refine jw_gR (Cn := RX7) (T := TX7) (N := 12) C hJ h6 rfl inX7_startAnew_X7 (by decide) (jm_w C 5 rfl) (fun _ h => h) dX7_startAnew_59 ?_
      obtain ⟨a7, o7, hf⟩ := jm_rd_ok hf
      obtain ⟨v7, S7, h7, hf⟩ := jm_bd_ok hf
      refine jw_cV (q := (RX6, TX6, 1)) C hJ hS o7 rfl (cX6_dropAll_C l G a7 h7) (cwV 0 C.2.2.2.2.1 gX7_startAnew_X6_dropAll rfl rfl rfl (by decide +kernel) ⟨Nat.le_of_ble_eq_true rfl, Nat.le_of_ble_eq_true rfl⟩) rfl hl.1 rfl (Nat.le_of_ble_eq_true rfl) dX7_startAnew_62 ⟨Nat.le_refl _, Nat.le_refl _⟩ (fun H locs hJ hS => ?_)
      refine jw_aload_n C dX7_startAnew_65 rfl (hl.at 0 rfl) ?_
      refine lv_null C.1 C.2.1 dX7_startAnew_66 ?_
      show W _ _ _ _ _ _ _ _ _ _ _ _ _ _ _ (F0 _ _ _ (va_rf none :: _))
      obtain ⟨S8, h8, hf⟩ := jm_wr_ok hf
      refine jw_p (x := .inr none) (ty := (.object "CoordinationService$Server")) (Cn := RX7) (T := TX7) (N := 12) C hJ hS h8 rfl inX7_startAnew_X7 tyX7 tyX7_ok nmX7 (by decide) (jm_w C 6 rfl) (fun _ h => h) rfl (by decide +kernel) (jm_nr _ none).1 (jm_nr _ none).2 dX7_startAnew_67 (fun H locs hJ hS => ?_)
      refine jw_aload_n C dX7_startAnew_70 rfl (hl.at 0 rfl) ?_
      refine lv_iconst (v := 0) C.1 C.2.1 dX7_startAnew_71 (by decide) ?_
      obtain ⟨S9, h9, hf⟩ := jm_wr_ok hf
      refine jw_p (x := .inl 0) (ty := .int) (Cn := RX7) (T := TX7) (N := 12) C hJ hS h9 rfl inX7_startAnew_X7 tyX7 tyX7_ok nmX7 (by decide) (jm_w C 7 rfl) (fun _ h => h) rfl (by decide +kernel) rfl rfl dX7_startAnew_72 (fun H locs hJ hS => ?_)
      refine jw_aload_n C dX7_startAnew_75 rfl (hl.at 0 rfl) ?_
      refine lv_iconst (v := 0) C.1 C.2.1 dX7_startAnew_76 (by decide) ?_
      obtain ⟨S10, h10, hf⟩ := jm_wr_ok hf
      refine jw_p (x := .inl 0) (ty := .int) (Cn := RX7) (T := TX7) (N := 12) C hJ hS h10 rfl inX7_startAnew_X7 tyX7 tyX7_ok nmX7 (by decide) (jm_w C 8 rfl) (fun _ h => h) rfl (by decide +kernel) rfl rfl dX7_startAnew_77 (fun H locs hJ hS => ?_)
      refine jw_aload_n C dX7_startAnew_80 rfl (hl.at 0 rfl) ?_
      refine lv_iconst (v := 0) C.1 C.2.1 dX7_startAnew_81 (by decide) ?_
      obtain ⟨S11, h11, hf⟩ := jm_wr_ok hf
      refine jw_p (x := .inl 0) (ty := .int) (Cn := RX7) (T := TX7) (N := 12) C hJ hS h11 rfl inX7_startAnew_X7 tyX7 tyX7_ok nmX7 (by decide) (jm_w C 9 rfl) (fun _ h => h) rfl (by decide +kernel) rfl rfl dX7_startAnew_82 (fun H locs hJ hS => ?_)
      refine jw_aload_n C dX7_startAnew_85 rfl (hl.at 0 rfl) ?_
      refine lv_iconst (v := 0) C.1 C.2.1 dX7_startAnew_86 (by decide) ?_
      obtain ⟨S12, h12, hf⟩ := jm_wr_ok hf
      refine jw_p (x := .inl 0) (ty := .int) (Cn := RX7) (T := TX7) (N := 12) C hJ hS h12 rfl inX7_startAnew_X7 tyX7 tyX7_ok nmX7 (by decide) (jm_w C 10 rfl) (fun _ h => h) rfl (by decide +kernel) rfl rfl dX7_startAnew_87 (fun H locs hJ hS => ?_)
      refine jw_aload_n C dX7_startAnew_90 rfl (hl.at 0 rfl) ?_
      refine lv_iconst (v := 0) C.1 C.2.1 dX7_startAnew_91 (by decide) ?_
      obtain ⟨S13, h13, hf⟩ := jm_wr_ok hf
      refine jw_p (x := .inl 0) (ty := .int) (Cn := RX7) (T := TX7) (N := 12) C hJ hS h13 rfl inX7_startAnew_X7 tyX7 tyX7_ok nmX7 (by decide) (jm_w C 11 rfl) (fun _ h => h) rfl (by decide +kernel) rfl rfl dX7_startAnew_92 (fun H locs hJ hS => ?_)
      obtain ⟨rfl, rfl⟩ := jm_ret_ok hf
      exact jw_rv C hJ hS (Nat.le_refl _) (Nat.le_refl _) dX7_startAnew_95
    · replace hf := jm_iff hf hq4
      refine jw_aload_n C dX7_startAnew_22 rfl (hl.at 2 rfl) ?_
      refine lv_iload C.1 C.2.1 dX7_startAnew_23 (hl.at 4 rfl) ?_
      obtain ⟨v14, h14, hf⟩ := jm_rd_ok hf
      refine jw_aaload C hJ h14 (by decide) rfl dX7_startAnew_25 ?_
      refine jw_astore C dX7_startAnew_26 hl (by decide) rfl (fun ls hl => ?_)
      refine jw_aload C dX7_startAnew_28 (hl.at 0 rfl) ?_
      refine jw_aload C dX7_startAnew_30 (hl.at 0 rfl) ?_
      obtain ⟨v15, h15, hf⟩ := jm_rd_ok hf
      refine jw_gI (Cn := RX1) (T := TX1) (N := 7) C hJ h15 rfl inX7_startAnew_X1 (by decide) (jm_w C 3 rfl) (fun _ h => h) dX7_startAnew_32 ?_
      refine lv_iload_n C.1 C.2.1 dX7_startAnew_35 rfl (hl.at 2 rfl) ?_
      refine lv_icmp_ge (tgt := 43) C.1 C.2.1 dX7_startAnew_36 (by decide) (fun hq16 => ?_) (fun hq16 => ?_)
      · replace hf := jm_ift hf hq16
        refine lv_iconst (v := 0) C.1 C.2.1 dX7_startAnew_43 (by decide) ?_
        obtain ⟨a17, o17, hf⟩ := jm_rd_ok hf
        obtain ⟨v17, S17, h17, hf⟩ := jm_bd_ok hf
        refine jw_cV (q := (RX1, TX1, 7)) C hJ hS o17 rfl (cX1_startAnew_C l G a17 0 h17) (cwV 1 C.2.2.2.2.1 gX7_startAnew_X1_startAnew rfl rfl rfl (by decide +kernel) ⟨Nat.le_of_ble_eq_true rfl, Nat.le_of_ble_eq_true rfl⟩) rfl hl.1 rfl (Nat.le_of_ble_eq_true rfl) dX7_startAnew_44 ⟨Nat.le_refl _, Nat.le_refl _⟩ (fun H locs hJ hS => ?_)
        refine jw_iinc (v := x4 + 1) C 5 dX7_startAnew_47 hl rfl (by rfl) (by decide) rfl (fun ls hl => ?_)
        refine lv_goto (tgt := 16) C.1 C.2.1 dX7_startAnew_50 (by decide) ?_
        exact ih h0 x1 x2 x3 (x4 + 1) hf hJ hS (hl.sub [2, 3, 4, 5, 0] rfl)
      · replace hf := jm_iff hf hq16
        refine lv_iconst (v := 1) C.1 C.2.1 dX7_startAnew_39 (by decide) ?_
        refine lv_goto (tgt := 44) C.1 C.2.1 dX7_startAnew_40 (by decide) ?_
        obtain ⟨a18, o18, hf⟩ := jm_rd_ok hf
        obtain ⟨v18, S18, h18, hf⟩ := jm_bd_ok hf
        refine jw_cV (q := (RX1, TX1, 7)) C hJ hS o18 rfl (cX1_startAnew_C l G a18 1 h18) (cwV 1 C.2.2.2.2.1 gX7_startAnew_X1_startAnew rfl rfl rfl (by decide +kernel) ⟨Nat.le_of_ble_eq_true rfl, Nat.le_of_ble_eq_true rfl⟩) rfl hl.1 rfl (Nat.le_of_ble_eq_true rfl) dX7_startAnew_44 ⟨Nat.le_refl _, Nat.le_refl _⟩ (fun H locs hJ hS => ?_)
        refine jw_iinc (v := x4 + 1) C 5 dX7_startAnew_47 hl rfl (by rfl) (by decide) rfl (fun ls hl => ?_)
        refine lv_goto (tgt := 16) C.1 C.2.1 dX7_startAnew_50 (by decide) ?_
        exact ih h0 x1 x2 x3 (x4 + 1) hf hJ hS (hl.sub [2, 3, 4, 5, 0] rfl)
theorem moX7_startAnew (h0 : Nat) (x1 : Int32) : jm_Mo (fX7_startAnew h0 x1) := by
  unfold fX7_startAnew
  exact jm_Mo_wr jm_p_st (jm_Mo_rd (fun _ => jm_Mo_rd (fun _ => moX7_startAnew_16 _ _ _ _ _ _)))
set_option maxHeartbeats 4000000 in
set_option maxRecDepth 100000 in
theorem kX7_startAnew {rv : Unit} {Sf : jm_S} (C : jm_C G cX7_startAnew 6 RX7 wsX7_startAnew (none) p s m args meth c) : ∀ (h0 : Nat) (x1 : Int32) {S : jm_S} {H : Heap} {locs : List Loc} {ls : Array Slot}, fX7_startAnew h0 x1 S = some (rv, Sf) → jm_J G S H → va_S (jm_A G) s.heap H locs → jm_L ls 6 [(0, .inr (some h0)), (1, .inl x1)] → W p l e ({ frames := 2, cells := 0, slots := 0, locals := 45 } : Room) s m args below meth c H locs 0 0 (MQ below (jm_Q G (none) Sf) args s 0 0 (jm_A G)) (F0 m 0 ls []) := by
  intro h0 x1 S H locs ls hf hJ hS hl
  unfold fX7_startAnew at hf
  refine jw_aload_n C dX7_startAnew_0 rfl (hl.at 0 rfl) ?_
  refine lv_iload_n C.1 C.2.1 dX7_startAnew_1 rfl (hl.at 1 rfl) ?_
  obtain ⟨S1, h1, hf⟩ := jm_wr_ok hf
  refine jw_p (x := .inl x1) (ty := .int) (Cn := RX7) (T := TX7) (N := 12) C hJ hS h1 rfl inX7_startAnew_X7 tyX7 tyX7_ok nmX7 (by decide) (jm_w C 1 rfl) (fun _ h => h) rfl (by decide +kernel) rfl rfl dX7_startAnew_2 (fun H locs hJ hS => ?_)
  refine jw_aload_n C dX7_startAnew_5 rfl (hl.at 0 rfl) ?_
  obtain ⟨v2, h2, hf⟩ := jm_rd_ok hf
  refine jw_gR (Cn := RX7) (T := TX7) (N := 12) C hJ h2 rfl inX7_startAnew_X7 (by decide) (jm_w C 2 rfl) (fun _ h => h) dX7_startAnew_6 ?_
  refine jw_astore_n C dX7_startAnew_9 rfl hl (by decide) rfl (fun ls hl => ?_)
  refine jw_aload_n C dX7_startAnew_10 rfl (hl.at 0 rfl) ?_
  obtain ⟨v3, h3, hf⟩ := jm_rd_ok hf
  refine jw_lq C hJ hS h3 (by decide) rfl dX7_startAnew_11 ?_
  refine jw_istore_n C dX7_startAnew_12 rfl hl (by decide) rfl (fun ls hl => ?_)
  refine lv_iconst (v := 0) C.1 C.2.1 dX7_startAnew_13 (by decide) ?_
  refine jw_istore C dX7_startAnew_14 hl (by decide) rfl (fun ls hl => ?_)
  exact kX7_startAnew_16 C 4096 h0 x1 v2 v3 0 hf hJ hS (hl.sub [3, 4, 2, 1, 0] rfl)
set_option maxHeartbeats 4000000 in
set_option maxRecDepth 100000 in
theorem cX7_startAnew_C (l : Launch) (G : jm_G) (h0 : Nat) (x1 : Int32) {S Sf : jm_S} {rv : Unit} (hf : fX7_startAnew h0 x1 S = some (rv, Sf)) : Met l yX7_startAnew wsX7_startAnew ({ frames := 2, cells := 0, slots := 0, locals := 45 } : Room) (jm_Pc G S [.ref h0, .int x1]) (jm_Q G (none) Sf) 0 0 (jm_A G) := by
  refine Met.ofW (cc := cX7_startAnew) (maxL := 6) (ret := none) (by decide) rfl ?_
  intro p e s m args below meth c s₁ B hml hv
  obtain ⟨rfl, hJ, hX⟩ := hv
  have C : jm_C G cX7_startAnew 6 RX7 wsX7_startAnew (none) p s m _ meth c := ⟨B.exec, B.bytes, hml, findClass_of_methodNamed B.named, atoms_spec (ws := wsX7_startAnew) B.pre, B.returns, B.notSynchronized, hX⟩
  obtain ⟨ls, he, hl⟩ := jm_entry m [.inr (some h0), .inl x1] (n := 6) (Nat.le_of_ble_eq_true rfl)
  have he : entryFrame m ([.ref h0, .int x1] : List Value).toArray 6 = F0 m 0 ls [] := he
  rw [he]
  exact kX7_startAnew C h0 x1 hf hJ va_S.rf (hl.sub [0, 1] rfl)
/-! CoordinationService.<init> -/
def fX7_init_77 : Nat → Nat → Int32 → jm_P Unit
  | 0, _, _ => jm_no
  | n + 1, h0, x1 => jm_rd (jm_gR (some h0) 8 1) fun v15 => jm_rd (jm_lq v15 4) fun v16 => (if v16 ≤ x1 then jm_rd (jm_o (some h0) 8) fun a18 => jm_bd (fX7_startAnew a18 3) fun _ => jm_ret () else jm_rd (jm_gR (some h0) 8 1) fun v19 => jm_bd (jm_new 3 [.inl 0, .inl 0, .inr none]) fun q20 => jm_bd (fX2_init q20 x1) fun _ => jm_wr (jm_sq v19 4 x1 (some q20)) <| fX7_init_77 n h0 (x1 + 1))
def fX7_init_46 : Nat → Nat → Int32 → jm_P Unit
  | 0, _, _ => jm_no
  | n + 1, h0, x1 => jm_rd (jm_gR (some h0) 8 0) fun v12 => jm_rd (jm_lq v12 3) fun v13 => (if v13 ≤ x1 then fX7_init_77 4096 h0 0 else jm_rd (jm_gR (some h0) 8 0) fun v23 => jm_bd (jm_new 2 [.inl 0, .inr none, .inr none, .inl 0, .inl 0, .inl 0, .inl 0]) fun q24 => jm_bd (fX1_init q24 x1) fun _ => jm_wr (jm_sq v23 3 x1 (some q24)) <| fX7_init_46 n h0 (x1 + 1))
def fX7_init (h0 : Nat) : jm_P Unit := jm_rd (jm_nn (some h0)) fun _ => jm_bd (jm_nq 3 5) fun q2 => jm_wr (jm_p (some h0) 8 0 (.inr q2)) <| jm_bd (jm_nq 4 6) fun q4 => jm_wr (jm_p (some h0) 8 1 (.inr q4)) <| jm_bd (jm_new 7 [.inr none]) fun q6 => jm_bd (fX6_init q6) fun _ => jm_wr (jm_p (some h0) 8 2 (.inr (some q6))) <| jm_bd (jm_new 5 [.inl 0, .inr none]) fun q9 => jm_bd (fX4_init q9 (-1)) fun _ => jm_wr (jm_p (some h0) 8 3 (.inr (some q9))) <| fX7_init_46 4096 h0 0
theorem inX7_init_X7 : ∀ w ∈ wsX70, w ∈ wsX7_init := fun _ h => List.mem_cons_of_mem _ (List.mem_append_left _ (List.mem_append_left _ (List.mem_append_left _ (List.mem_append_left _ (List.mem_append_left _ (List.mem_append_left _ (List.mem_append_right _ h)))))))
theorem inX7_init_X6 : ∀ w ∈ wsX60, w ∈ wsX7_init := fun _ h => List.mem_cons_of_mem _ (List.mem_append_left _ (List.mem_append_left _ (List.mem_append_left _ (List.mem_append_left _ (List.mem_append_left _ (List.mem_append_right _ h))))))
theorem inX7_init_X4 : ∀ w ∈ wsX40, w ∈ wsX7_init := fun _ h => List.mem_cons_of_mem _ (List.mem_append_left _ (List.mem_append_left _ (List.mem_append_left _ (List.mem_append_left _ (List.mem_append_right _ h)))))
theorem inX7_init_X2 : ∀ w ∈ wsX20, w ∈ wsX7_init := fun _ h => List.mem_cons_of_mem _ (List.mem_append_left _ (List.mem_append_left _ (List.mem_append_right _ h)))
theorem moX7_init_77 : ∀ (n : Nat) (h0 : Nat) (x1 : Int32), jm_Mo (fX7_init_77 n h0 x1) := by
  intro n
  induction n with
  | zero =>
    intro h0 x1
    rw [fX7_init_77]
    exact jm_Mo_no
  | succ n ih =>
    intro h0 x1
    rw [fX7_init_77]
    exact jm_Mo_rd (fun _ => jm_Mo_rd (fun _ => jm_Mo_if (jm_Mo_rd (fun _ => jm_Mo_bd (moX7_startAnew _ _) (fun _ => jm_Mo_ret _))) (jm_Mo_rd (fun _ => jm_Mo_bd jm_Mo_new (fun _ => jm_Mo_bd (moX2_init _ _) (fun _ => jm_Mo_wr jm_sq_st (ih _ _)))))))
set_option maxHeartbeats 4000000 in
set_option maxRecDepth 100000 in
theorem kX7_init_77 {rv : Unit} {Sf : jm_S} (C : jm_C G cX7_init 2 RX7 wsX7_init (none) p s m args meth c) (hi : meth.name = "<init>") {n0 m0 mc ms : Nat} (hr1 : Sf.2.1 ≤ n0 + mc) (hr2 : Sf.2.2.1 ≤ m0 + ms) : ∀ (n : Nat) (h0 : Nat) (x1 : Int32) {S : jm_S} {H : Heap} {locs : List Loc} {ls : Array Slot} {cells slots : Nat}, fX7_init_77 n h0 x1 S = some (rv, Sf) → jm_J G S H → va_S (jm_A G) s.heap H locs → jm_L ls 2 [(0, .inr (some h0)), (1, .inl x1)] → cells + n0 ≤ S.2.1 → slots + m0 ≤ S.2.2.1 → W p l e ({ frames := 5, cells := mc, slots := ms, locals := 101 } : Room) s m args below meth c H locs cells slots (MQ below (jm_Q G (none) Sf) args s mc ms (jm_A G)) (F0 m 77 ls []) := by
  intro n
  induction n with
  | zero =>
    intro h0 x1 S H locs ls cells slots hf
    rw [fX7_init_77] at hf
    exact absurd hf (fun h => jm_no_ok h)
  | succ n ih =>
    intro h0 x1 S H locs ls cells slots hf hJ hS hl hc1 hc2
    rw [fX7_init_77] at hf
    refine lv_iload_n C.1 C.2.1 dX7_init_77 rfl (hl.at 1 rfl) ?_
    refine jw_aload_n C dX7_init_78 rfl (hl.at 0 rfl) ?_
    obtain ⟨v15, h15, hf⟩ := jm_rd_ok hf
    refine jw_gR (Cn := RX7) (T := TX7) (N := 12) C hJ h15 rfl inX7_init_X7 (by decide) (jm_w C 7 rfl) (fun _ h => h) dX7_init_79 ?_
    obtain ⟨v16, h16, hf⟩ := jm_rd_ok hf
    refine jw_lq C hJ hS h16 (by decide) rfl dX7_init_82 ?_
    refine lv_icmp_ge (tgt := 106) C.1 C.2.1 dX7_init_83 (by decide) (fun hq17 => ?_) (fun hq17 => ?_)
    · replace hf := jm_ift hf hq17
      refine jw_aload_n C dX7_init_106 rfl (hl.at 0 rfl) ?_
      refine lv_iconst (v := 3) C.1 C.2.1 dX7_init_107 (by decide) ?_
      obtain ⟨a18, o18, hf⟩ := jm_rd_ok hf
      obtain ⟨v18, S18, h18, hf⟩ := jm_bd_ok hf
      have e18 := moX7_startAnew a18 3 _ _ _ h18
      have g18 := jm_mo hf (jm_Mo_ret _)
      refine jw_cV (q := (RX7, TX7, 12)) C hJ hS o18 rfl (cX7_startAnew_C l G a18 3 h18) (cwV 1 C.2.2.2.2.1 gX7_init_X7_startAnew rfl rfl rfl (by decide +kernel) ⟨Nat.le_of_ble_eq_true rfl, Nat.le_of_ble_eq_true rfl⟩) rfl hl.1 rfl (Nat.le_of_ble_eq_true rfl) dX7_init_108 ⟨by show cells + 0 ≤ mc; omega, by show slots + 0 ≤ ms; omega⟩ (fun H locs hJ hS => ?_)
      replace hc1 : cells + 0 + n0 ≤ S18.2.1 := by omega
      replace hc2 : slots + 0 + m0 ≤ S18.2.2.1 := by omega
      generalize cells + 0 = cells at hc1 ⊢
      generalize slots + 0 = slots at hc2 ⊢
      obtain ⟨rfl, rfl⟩ := jm_ret_ok hf
      exact jw_rv C hJ hS (by omega) (by omega) dX7_init_111
    · replace hf := jm_iff hf hq17
      refine jw_aload_n C dX7_init_86 rfl (hl.at 0 rfl) ?_
      obtain ⟨v19, h19, hf⟩ := jm_rd_ok hf
      refine jw_gR (Cn := RX7) (T := TX7) (N := 12) C hJ h19 rfl inX7_init_X7 (by decide) (jm_w C 7 rfl) (fun _ h => h) dX7_init_87 ?_
      refine lv_iload_n C.1 C.2.1 dX7_init_90 rfl (hl.at 1 rfl) ?_
      obtain ⟨q20, S20, h20, hf⟩ := jm_bd_ok hf
      have e20 := jm_new_st h20
      have g20 := jm_mo hf (jm_Mo_bd (moX2_init _ _) (fun _ => jm_Mo_wr jm_sq_st (moX7_init_77 _ _ _)))
      simp only [List.length_cons, List.length_nil] at e20
      refine jw_new (Cn := RX2) (T := TX2) (N := 3) C hJ hS h20 rfl inX7_init_X2 tyX2 tyX2_ok (by decide +kernel) rfl (jm_w C 6 rfl) (jm_w C 18 rfl) (jm_w C 19 rfl) (by show cells + 1 ≤ mc; omega) (by show slots + 3 ≤ ms; omega) dX7_init_91 (fun H hJ hS => ?_)
      replace hc1 : cells + 1 + n0 ≤ S20.2.1 := by omega
      replace hc2 : slots + 3 + m0 ≤ S20.2.2.1 := by omega
      generalize cells + 1 = cells at hc1 ⊢
      generalize slots + 3 = slots at hc2 ⊢
      refine lv_dup C.1 C.2.1 dX7_init_94 (jm_catr _) ?_
      refine lv_iload_n C.1 C.2.1 dX7_init_95 rfl (hl.at 1 rfl) ?_
      obtain ⟨v21, S21, h21, hf⟩ := jm_bd_ok hf
      have e21 := moX2_init q20 x1 _ _ _ h21
      have g21 := jm_mo hf (jm_Mo_wr jm_sq_st (moX7_init_77 _ _ _))
      refine jw_cI C hJ hS (cX2_init_C l G q20 x1 h21 (S21.2.1 - S20.2.1) (S21.2.2.1 - S20.2.2.1) (by omega) (by omega)) (cwI 1 C.2.2.2.2.1 gX7_init_X2_init rfl rfl rfl (jm_w C 19 rfl) (jm_w C 66 rfl) (jm_w C 67 rfl) rfl (by decide +kernel) ⟨Nat.le_of_ble_eq_true rfl, Nat.le_of_ble_eq_true rfl⟩) rfl hl.1 rfl (Nat.le_of_ble_eq_true rfl) dX7_init_96 ⟨by show cells + _ ≤ mc; omega, by show slots + _ ≤ ms; omega⟩ (fun H locs hJ hS => ?_)
      replace hc1 : cells + (S21.2.1 - S20.2.1) + n0 ≤ S21.2.1 := by omega
      replace hc2 : slots + (S21.2.2.1 - S20.2.2.1) + m0 ≤ S21.2.2.1 := by omega
      generalize cells + (S21.2.1 - S20.2.1) = cells at hc1 ⊢
      generalize slots + (S21.2.2.1 - S20.2.2.1) = slots at hc2 ⊢
      obtain ⟨S22, h22, hf⟩ := jm_wr_ok hf
      have e22 := jm_sq_st _ _ h22
      rw [← e22] at hc1 hc2
      refine jw_aastore C hJ hS h22 (by decide) rfl dX7_init_99 (fun H locs hJ hS => ?_)
      refine jw_iinc (v := x1 + 1) C 1 dX7_init_100 hl rfl (by rfl) (by decide) rfl (fun ls hl => ?_)
      refine lv_goto (tgt := 77) C.1 C.2.1 dX7_init_103 (by decide) ?_
      exact ih h0 (x1 + 1) hf hJ hS (hl.sub [1, 0] rfl) hc1 hc2
theorem inX7_init_X1 : ∀ w ∈ wsX10, w ∈ wsX7_init := fun _ h => List.mem_cons_of_mem _ (List.mem_append_left _ (List.mem_append_left _ (List.mem_append_left _ (List.mem_append_right _ h))))
theorem moX7_init_46 : ∀ (n : Nat) (h0 : Nat) (x1 : Int32), jm_Mo (fX7_init_46 n h0 x1) := by
  intro n
  induction n with
  | zero =>
    intro h0 x1
    rw [fX7_init_46]
    exact jm_Mo_no
  | succ n ih =>
    intro h0 x1
    rw [fX7_init_46]
    exact jm_Mo_rd (fun _ => jm_Mo_rd (fun _ => jm_Mo_if (moX7_init_77 _ _ _) (jm_Mo_rd (fun _ => jm_Mo_bd jm_Mo_new (fun _ => jm_Mo_bd (moX1_init _ _) (fun _ => jm_Mo_wr jm_sq_st (ih _ _)))))))
set_option maxHeartbeats 4000000 in
set_option maxRecDepth 100000 in
theorem kX7_init_46 {rv : Unit} {Sf : jm_S} (C : jm_C G cX7_init 2 RX7 wsX7_init (none) p s m args meth c) (hi : meth.name = "<init>") {n0 m0 mc ms : Nat} (hr1 : Sf.2.1 ≤ n0 + mc) (hr2 : Sf.2.2.1 ≤ m0 + ms) : ∀ (n : Nat) (h0 : Nat) (x1 : Int32) {S : jm_S} {H : Heap} {locs : List Loc} {ls : Array Slot} {cells slots : Nat}, fX7_init_46 n h0 x1 S = some (rv, Sf) → jm_J G S H → va_S (jm_A G) s.heap H locs → jm_L ls 2 [(0, .inr (some h0)), (1, .inl x1)] → cells + n0 ≤ S.2.1 → slots + m0 ≤ S.2.2.1 → W p l e ({ frames := 5, cells := mc, slots := ms, locals := 101 } : Room) s m args below meth c H locs cells slots (MQ below (jm_Q G (none) Sf) args s mc ms (jm_A G)) (F0 m 46 ls []) := by
  intro n
  induction n with
  | zero =>
    intro h0 x1 S H locs ls cells slots hf
    rw [fX7_init_46] at hf
    exact absurd hf (fun h => jm_no_ok h)
  | succ n ih =>
    intro h0 x1 S H locs ls cells slots hf hJ hS hl hc1 hc2
    rw [fX7_init_46] at hf
    refine lv_iload_n C.1 C.2.1 dX7_init_46 rfl (hl.at 1 rfl) ?_
    refine jw_aload_n C dX7_init_47 rfl (hl.at 0 rfl) ?_
    obtain ⟨v12, h12, hf⟩ := jm_rd_ok hf
    refine jw_gR (Cn := RX7) (T := TX7) (N := 12) C hJ h12 rfl inX7_init_X7 (by decide) (jm_w C 5 rfl) (fun _ h => h) dX7_init_48 ?_
    obtain ⟨v13, h13, hf⟩ := jm_rd_ok hf
    refine jw_lq C hJ hS h13 (by decide) rfl dX7_init_51 ?_
    refine lv_icmp_ge (tgt := 75) C.1 C.2.1 dX7_init_52 (by decide) (fun hq14 => ?_) (fun hq14 => ?_)
    · replace hf := jm_ift hf hq14
      refine lv_iconst (v := 0) C.1 C.2.1 dX7_init_75 (by decide) ?_
      refine jw_istore_n C dX7_init_76 rfl hl (by decide) rfl (fun ls hl => ?_)
      exact kX7_init_77 C hi hr1 hr2 4096 h0 0 hf hJ hS (hl.sub [1, 0] rfl) hc1 hc2
    · replace hf := jm_iff hf hq14
      refine jw_aload_n C dX7_init_55 rfl (hl.at 0 rfl) ?_
      obtain ⟨v23, h23, hf⟩ := jm_rd_ok hf
      refine jw_gR (Cn := RX7) (T := TX7) (N := 12) C hJ h23 rfl inX7_init_X7 (by decide) (jm_w C 5 rfl) (fun _ h => h) dX7_init_56 ?_
      refine lv_iload_n C.1 C.2.1 dX7_init_59 rfl (hl.at 1 rfl) ?_
      obtain ⟨q24, S24, h24, hf⟩ := jm_bd_ok hf
      have e24 := jm_new_st h24
      have g24 := jm_mo hf (jm_Mo_bd (moX1_init _ _) (fun _ => jm_Mo_wr jm_sq_st (moX7_init_46 _ _ _)))
      simp only [List.length_cons, List.length_nil] at e24
      refine jw_new (Cn := RX1) (T := TX1) (N := 7) C hJ hS h24 rfl inX7_init_X1 tyX1 tyX1_ok (by decide +kernel) rfl (jm_w C 4 rfl) (jm_w C 16 rfl) (jm_w C 17 rfl) (by show cells + 1 ≤ mc; omega) (by show slots + 7 ≤ ms; omega) dX7_init_60 (fun H hJ hS => ?_)
      replace hc1 : cells + 1 + n0 ≤ S24.2.1 := by omega
      replace hc2 : slots + 7 + m0 ≤ S24.2.2.1 := by omega
      generalize cells + 1 = cells at hc1 ⊢
      generalize slots + 7 = slots at hc2 ⊢
      refine lv_dup C.1 C.2.1 dX7_init_63 (jm_catr _) ?_
      refine lv_iload_n C.1 C.2.1 dX7_init_64 rfl (hl.at 1 rfl) ?_
      obtain ⟨v25, S25, h25, hf⟩ := jm_bd_ok hf
      have e25 := moX1_init q24 x1 _ _ _ h25
      have g25 := jm_mo hf (jm_Mo_wr jm_sq_st (moX7_init_46 _ _ _))
      refine jw_cI C hJ hS (cX1_init_C l G q24 x1 h25 (S25.2.1 - S24.2.1) (S25.2.2.1 - S24.2.2.1) (by omega) (by omega)) (cwI 1 C.2.2.2.2.1 gX7_init_X1_init rfl rfl rfl (jm_w C 17 rfl) (jm_w C 55 rfl) (jm_w C 56 rfl) rfl (by decide +kernel) ⟨Nat.le_of_ble_eq_true rfl, Nat.le_of_ble_eq_true rfl⟩) rfl hl.1 rfl (Nat.le_of_ble_eq_true rfl) dX7_init_65 ⟨by show cells + _ ≤ mc; omega, by show slots + _ ≤ ms; omega⟩ (fun H locs hJ hS => ?_)
      replace hc1 : cells + (S25.2.1 - S24.2.1) + n0 ≤ S25.2.1 := by omega
      replace hc2 : slots + (S25.2.2.1 - S24.2.2.1) + m0 ≤ S25.2.2.1 := by omega
      generalize cells + (S25.2.1 - S24.2.1) = cells at hc1 ⊢
      generalize slots + (S25.2.2.1 - S24.2.2.1) = slots at hc2 ⊢
      obtain ⟨S26, h26, hf⟩ := jm_wr_ok hf
      have e26 := jm_sq_st _ _ h26
      rw [← e26] at hc1 hc2
      refine jw_aastore C hJ hS h26 (by decide) rfl dX7_init_68 (fun H locs hJ hS => ?_)
      refine jw_iinc (v := x1 + 1) C 1 dX7_init_69 hl rfl (by rfl) (by decide) rfl (fun ls hl => ?_)
      refine lv_goto (tgt := 46) C.1 C.2.1 dX7_init_72 (by decide) ?_
      exact ih h0 (x1 + 1) hf hJ hS (hl.sub [1, 0] rfl) hc1 hc2
theorem moX7_init (h0 : Nat) : jm_Mo (fX7_init h0) := by
  unfold fX7_init
  exact jm_Mo_rd (fun _ => jm_Mo_bd jm_Mo_nq (fun _ => jm_Mo_wr jm_p_st (jm_Mo_bd jm_Mo_nq (fun _ => jm_Mo_wr jm_p_st (jm_Mo_bd jm_Mo_new (fun _ => jm_Mo_bd (moX6_init _) (fun _ => jm_Mo_wr jm_p_st (jm_Mo_bd jm_Mo_new (fun _ => jm_Mo_bd (moX4_init _ _) (fun _ => jm_Mo_wr jm_p_st (moX7_init_46 _ _ _)))))))))))
set_option maxHeartbeats 4000000 in
set_option maxRecDepth 100000 in
theorem kX7_init {rv : Unit} {Sf : jm_S} (C : jm_C G cX7_init 2 RX7 wsX7_init (none) p s m args meth c) (hi : meth.name = "<init>") {n0 m0 mc ms : Nat} (hr1 : Sf.2.1 ≤ n0 + mc) (hr2 : Sf.2.2.1 ≤ m0 + ms) : ∀ (h0 : Nat) {S : jm_S} {H : Heap} {locs : List Loc} {ls : Array Slot} {cells slots : Nat}, fX7_init h0 S = some (rv, Sf) → jm_J G S H → va_S (jm_A G) s.heap H locs → jm_L ls 2 [(0, .inr (some h0))] → cells + n0 ≤ S.2.1 → slots + m0 ≤ S.2.2.1 → W p l e ({ frames := 5, cells := mc, slots := ms, locals := 101 } : Room) s m args below meth c H locs cells slots (MQ below (jm_Q G (none) Sf) args s mc ms (jm_A G)) (F0 m 0 ls []) := by
  intro h0 S H locs ls cells slots hf hJ hS hl hc1 hc2
  unfold fX7_init at hf
  refine jw_aload_n C dX7_init_0 rfl (hl.at 0 rfl) ?_
  obtain ⟨u1, h1, hf⟩ := jm_rd_ok hf
  refine jw_objInit C h1 hl.1 (jm_w C 1 rfl) (jm_w C 2 rfl) (jm_w C 3 rfl) dX7_init_1 (Nat.le_of_ble_eq_true rfl) (Nat.le_of_ble_eq_true rfl) (Nat.le_of_ble_eq_true rfl) ?_
  refine jw_aload_n C dX7_init_4 rfl (hl.at 0 rfl) ?_
  refine lv_iconst (v := 5) C.1 C.2.1 dX7_init_5 (by decide) ?_
  obtain ⟨q2, S2, h2, hf⟩ := jm_bd_ok hf
  have e2 := jm_nq_st h2
  have g2 := jm_mo hf (jm_Mo_wr jm_p_st (jm_Mo_bd jm_Mo_nq (fun _ => jm_Mo_wr jm_p_st (jm_Mo_bd jm_Mo_new (fun _ => jm_Mo_bd (moX6_init _) (fun _ => jm_Mo_wr jm_p_st (jm_Mo_bd jm_Mo_new (fun _ => jm_Mo_bd (moX4_init _ _) (fun _ => jm_Mo_wr jm_p_st (moX7_init_46 _ _ _))))))))))
  refine jw_nq C hJ hS h2 (jm_w C 4 rfl) C.2.2.2.2.2.2.2.2.2.2.2.1.2.1 rfl (by show cells + 1 ≤ mc; omega) (by show slots + _ ≤ ms; omega) dX7_init_6 (fun H hJ hS => ?_)
  replace hc1 : cells + 1 + n0 ≤ S2.2.1 := by omega
  replace hc2 : slots + (5 : Int32).toNatClampNeg + m0 ≤ S2.2.2.1 := by omega
  generalize cells + 1 = cells at hc1 ⊢
  generalize slots + (5 : Int32).toNatClampNeg = slots at hc2 ⊢
  obtain ⟨S3, h3, hf⟩ := jm_wr_ok hf
  have e3 := jm_p_st _ _ h3
  rw [← e3] at hc1 hc2
  refine jw_pF (x := .inr q2) (ty := (.array (.object "CoordinationService$Server"))) (Cn := RX7) (T := TX7) (N := 12) C hJ hS h3 rfl inX7_init_X7 tyX7 tyX7_ok nmX7 (by decide) (jm_w C 5 rfl) (fun _ h => h) rfl hi rfl (by decide +kernel) (jm_nra _ q2).1 (jm_nra _ q2).2 dX7_init_9 (fun H locs hJ hS => ?_)
  refine jw_aload_n C dX7_init_12 rfl (hl.at 0 rfl) ?_
  refine lv_bipush (v := 6) C.1 C.2.1 dX7_init_13 (by decide) ?_
  obtain ⟨q4, S4, h4, hf⟩ := jm_bd_ok hf
  have e4 := jm_nq_st h4
  have g4 := jm_mo hf (jm_Mo_wr jm_p_st (jm_Mo_bd jm_Mo_new (fun _ => jm_Mo_bd (moX6_init _) (fun _ => jm_Mo_wr jm_p_st (jm_Mo_bd jm_Mo_new (fun _ => jm_Mo_bd (moX4_init _ _) (fun _ => jm_Mo_wr jm_p_st (moX7_init_46 _ _ _))))))))
  refine jw_nq C hJ hS h4 (jm_w C 6 rfl) C.2.2.2.2.2.2.2.2.2.2.2.1.2.2.1 rfl (by show cells + 1 ≤ mc; omega) (by show slots + _ ≤ ms; omega) dX7_init_15 (fun H hJ hS => ?_)
  replace hc1 : cells + 1 + n0 ≤ S4.2.1 := by omega
  replace hc2 : slots + (6 : Int32).toNatClampNeg + m0 ≤ S4.2.2.1 := by omega
  generalize cells + 1 = cells at hc1 ⊢
  generalize slots + (6 : Int32).toNatClampNeg = slots at hc2 ⊢
  obtain ⟨S5, h5, hf⟩ := jm_wr_ok hf
  have e5 := jm_p_st _ _ h5
  rw [← e5] at hc1 hc2
  refine jw_pF (x := .inr q4) (ty := (.array (.object "CoordinationService$Session"))) (Cn := RX7) (T := TX7) (N := 12) C hJ hS h5 rfl inX7_init_X7 tyX7 tyX7_ok nmX7 (by decide) (jm_w C 7 rfl) (fun _ h => h) rfl hi rfl (by decide +kernel) (jm_nra _ q4).1 (jm_nra _ q4).2 dX7_init_18 (fun H locs hJ hS => ?_)
  refine jw_aload_n C dX7_init_21 rfl (hl.at 0 rfl) ?_
  obtain ⟨q6, S6, h6, hf⟩ := jm_bd_ok hf
  have e6 := jm_new_st h6
  have g6 := jm_mo hf (jm_Mo_bd (moX6_init _) (fun _ => jm_Mo_wr jm_p_st (jm_Mo_bd jm_Mo_new (fun _ => jm_Mo_bd (moX4_init _ _) (fun _ => jm_Mo_wr jm_p_st (moX7_init_46 _ _ _))))))
  simp only [List.length_cons, List.length_nil] at e6
  refine jw_new (Cn := RX6) (T := TX6) (N := 1) C hJ hS h6 rfl inX7_init_X6 tyX6 tyX6_ok (by decide +kernel) rfl (jm_w C 8 rfl) (jm_w C 9 rfl) (jm_w C 10 rfl) (by show cells + 1 ≤ mc; omega) (by show slots + 1 ≤ ms; omega) dX7_init_22 (fun H hJ hS => ?_)
  replace hc1 : cells + 1 + n0 ≤ S6.2.1 := by omega
  replace hc2 : slots + 1 + m0 ≤ S6.2.2.1 := by omega
  generalize cells + 1 = cells at hc1 ⊢
  generalize slots + 1 = slots at hc2 ⊢
  refine lv_dup C.1 C.2.1 dX7_init_25 (jm_catr _) ?_
  obtain ⟨v7, S7, h7, hf⟩ := jm_bd_ok hf
  have e7 := moX6_init q6 _ _ _ h7
  have g7 := jm_mo hf (jm_Mo_wr jm_p_st (jm_Mo_bd jm_Mo_new (fun _ => jm_Mo_bd (moX4_init _ _) (fun _ => jm_Mo_wr jm_p_st (moX7_init_46 _ _ _)))))
  refine jw_cIN C hJ hS (cX6_init_C l G q6 h7 (S7.2.1 - S6.2.1) (S7.2.2.1 - S6.2.2.1) (by omega) (by omega)) (va_cnB 0 C.2.2.2.2.1 gX7_init_X6_init_n23 rfl rfl rfl C.2.2.2.2.2.2.2.2.2.2.2.2.2.2.1 (jm_w C 10 rfl) (by decide +kernel) ⟨Nat.le_of_ble_eq_true rfl, Nat.le_of_ble_eq_true rfl⟩) rfl (jm_w C 20 rfl) rfl hl.1 rfl (Nat.le_of_ble_eq_true rfl) dX7_init_26 ⟨by show cells + _ ≤ mc; omega, by show slots + _ ≤ ms; omega⟩ (fun H locs hJ hS => ?_)
  replace hc1 : cells + (S7.2.1 - S6.2.1) + n0 ≤ S7.2.1 := by omega
  replace hc2 : slots + (S7.2.2.1 - S6.2.2.1) + m0 ≤ S7.2.2.1 := by omega
  generalize cells + (S7.2.1 - S6.2.1) = cells at hc1 ⊢
  generalize slots + (S7.2.2.1 - S6.2.2.1) = slots at hc2 ⊢
  obtain ⟨S8, h8, hf⟩ := jm_wr_ok hf
  have e8 := jm_p_st _ _ h8
  rw [← e8] at hc1 hc2
  refine jw_pF (x := .inr (some q6)) (ty := (.object "CoordinationService$Watches")) (Cn := RX7) (T := TX7) (N := 12) C hJ hS h8 rfl inX7_init_X7 tyX7 tyX7_ok nmX7 (by decide) (jm_w C 11 rfl) (fun _ h => h) rfl hi rfl (by decide +kernel) (jm_nr _ (some q6)).1 (jm_nr _ (some q6)).2 dX7_init_29 (fun H locs hJ hS => ?_)
  refine jw_aload_n C dX7_init_32 rfl (hl.at 0 rfl) ?_
  obtain ⟨q9, S9, h9, hf⟩ := jm_bd_ok hf
  have e9 := jm_new_st h9
  have g9 := jm_mo hf (jm_Mo_bd (moX4_init _ _) (fun _ => jm_Mo_wr jm_p_st (moX7_init_46 _ _ _)))
  simp only [List.length_cons, List.length_nil] at e9
  refine jw_new (Cn := RX4) (T := TX4) (N := 2) C hJ hS h9 rfl inX7_init_X4 tyX4 tyX4_ok (by decide +kernel) rfl (jm_w C 12 rfl) (jm_w C 13 rfl) (jm_w C 14 rfl) (by show cells + 1 ≤ mc; omega) (by show slots + 2 ≤ ms; omega) dX7_init_33 (fun H hJ hS => ?_)
  replace hc1 : cells + 1 + n0 ≤ S9.2.1 := by omega
  replace hc2 : slots + 2 + m0 ≤ S9.2.2.1 := by omega
  generalize cells + 1 = cells at hc1 ⊢
  generalize slots + 2 = slots at hc2 ⊢
  refine lv_dup C.1 C.2.1 dX7_init_36 (jm_catr _) ?_
  refine lv_iconst (v := (-1)) C.1 C.2.1 dX7_init_37 (by decide) ?_
  obtain ⟨v10, S10, h10, hf⟩ := jm_bd_ok hf
  have e10 := moX4_init q9 (-1) _ _ _ h10
  have g10 := jm_mo hf (jm_Mo_wr jm_p_st (moX7_init_46 _ _ _))
  refine jw_cI C hJ hS (cX4_init_C l G q9 (-1) h10 (S10.2.1 - S9.2.1) (S10.2.2.1 - S9.2.2.1) (by omega) (by omega)) (cwI 1 C.2.2.2.2.1 gX7_init_X4_init rfl rfl rfl (jm_w C 14 rfl) (jm_w C 42 rfl) (jm_w C 43 rfl) rfl (by decide +kernel) ⟨Nat.le_of_ble_eq_true rfl, Nat.le_of_ble_eq_true rfl⟩) rfl hl.1 rfl (Nat.le_of_ble_eq_true rfl) dX7_init_38 ⟨by show cells + _ ≤ mc; omega, by show slots + _ ≤ ms; omega⟩ (fun H locs hJ hS => ?_)
  replace hc1 : cells + (S10.2.1 - S9.2.1) + n0 ≤ S10.2.1 := by omega
  replace hc2 : slots + (S10.2.2.1 - S9.2.2.1) + m0 ≤ S10.2.2.1 := by omega
  generalize cells + (S10.2.1 - S9.2.1) = cells at hc1 ⊢
  generalize slots + (S10.2.2.1 - S9.2.2.1) = slots at hc2 ⊢
  obtain ⟨S11, h11, hf⟩ := jm_wr_ok hf
  have e11 := jm_p_st _ _ h11
  rw [← e11] at hc1 hc2
  refine jw_pF (x := .inr (some q9)) (ty := (.object "CoordinationService$Tree")) (Cn := RX7) (T := TX7) (N := 12) C hJ hS h11 rfl inX7_init_X7 tyX7 tyX7_ok nmX7 (by decide) (jm_w C 15 rfl) (fun _ h => h) rfl hi rfl (by decide +kernel) (jm_nr _ (some q9)).1 (jm_nr _ (some q9)).2 dX7_init_41 (fun H locs hJ hS => ?_)
  refine lv_iconst (v := 0) C.1 C.2.1 dX7_init_44 (by decide) ?_
  refine jw_istore_n C dX7_init_45 rfl hl (by decide) rfl (fun ls hl => ?_)
  exact kX7_init_46 C hi hr1 hr2 4096 h0 0 hf hJ hS (hl.sub [1, 0] rfl) hc1 hc2
set_option maxHeartbeats 4000000 in
set_option maxRecDepth 100000 in
theorem cX7_init_C (l : Launch) (G : jm_G) (h0 : Nat) {S Sf : jm_S} {rv : Unit} (hf : fX7_init h0 S = some (rv, Sf)) (mc ms : Nat) (hr1 : Sf.2.1 ≤ S.2.1 + mc) (hr2 : Sf.2.2.1 ≤ S.2.2.1 + ms) : Met l yX7_init wsX7_init ({ frames := 5, cells := mc, slots := ms, locals := 101 } : Room) (jm_Pc G S [.ref h0]) (jm_Q G (none) Sf) mc ms (jm_A G) := by
  refine Met.ofW (cc := cX7_init) (maxL := 2) (ret := none) (by decide) rfl ?_
  intro p e s m args below meth c s₁ B hml hv
  obtain ⟨rfl, hJ, hX⟩ := hv
  have C : jm_C G cX7_init 2 RX7 wsX7_init (none) p s m _ meth c := ⟨B.exec, B.bytes, hml, findClass_of_methodNamed B.named, atoms_spec (ws := wsX7_init) B.pre, B.returns, B.notSynchronized, hX⟩
  have hi : meth.name = "<init>" := (name_of_methodNamed B.named B.method).1
  obtain ⟨ls, he, hl⟩ := jm_entry m [.inr (some h0)] (n := 2) (Nat.le_of_ble_eq_true rfl)
  have he : entryFrame m ([.ref h0] : List Value).toArray 2 = F0 m 0 ls [] := he
  rw [he]
  exact kX7_init C hi (n0 := S.2.1) (m0 := S.2.2.1) hr1 hr2 h0 hf hJ va_S.rf (hl.sub [0] rfl) (by omega) (by omega)
/-! CoordinationService.reset -/
def fX7_reset (h0 : Nat) (x1 : Int32) : jm_P Int32 := (if x1 < 3 then jm_ret (-1) else (if x1 ≤ 5 then jm_rd (jm_gI (some h0) 8 4) fun v3 => jm_rd (jm_o (some h0) 8) fun a4 => jm_bd (fX7_startAnew a4 x1) fun _ => jm_ret v3 else jm_ret (-1)))
theorem inX7_reset_X7 : ∀ w ∈ wsX70, w ∈ wsX7_reset := fun _ h => List.mem_cons_of_mem _ (List.mem_append_left _ (List.mem_append_left _ (List.mem_append_left _ (List.mem_append_left _ (List.mem_append_left _ (List.mem_append_right _ h))))))
theorem moX7_reset (h0 : Nat) (x1 : Int32) : jm_Mo (fX7_reset h0 x1) := by
  unfold fX7_reset
  exact jm_Mo_if (jm_Mo_ret _) (jm_Mo_if (jm_Mo_rd (fun _ => jm_Mo_rd (fun _ => jm_Mo_bd (moX7_startAnew _ _) (fun _ => jm_Mo_ret _)))) (jm_Mo_ret _))
set_option maxHeartbeats 4000000 in
set_option maxRecDepth 100000 in
theorem kX7_reset {rv : Int32} {Sf : jm_S} (C : jm_C G cX7_reset 3 RX7 wsX7_reset ((some .int)) p s m args meth c) : ∀ (h0 : Nat) (x1 : Int32) {S : jm_S} {H : Heap} {locs : List Loc} {ls : Array Slot}, fX7_reset h0 x1 S = some (rv, Sf) → jm_J G S H → va_S (jm_A G) s.heap H locs → jm_L ls 3 [(0, .inr (some h0)), (1, .inl x1)] → W p l e ({ frames := 3, cells := 0, slots := 0, locals := 70 } : Room) s m args below meth c H locs 0 0 (MQ below (jm_Q G (some (.int rv)) Sf) args s 0 0 (jm_A G)) (F0 m 0 ls []) := by
  intro h0 x1 S H locs ls hf hJ hS hl
  unfold fX7_reset at hf
  refine lv_iload_n C.1 C.2.1 dX7_reset_0 rfl (hl.at 1 rfl) ?_
  refine lv_iconst (v := 3) C.1 C.2.1 dX7_reset_1 (by decide) ?_
  refine lv_icmp_lt (tgt := 10) C.1 C.2.1 dX7_reset_2 (by decide) (fun hq1 => ?_) (fun hq1 => ?_)
  · replace hf := jm_ift hf hq1
    refine lv_iconst (v := (-1)) C.1 C.2.1 dX7_reset_10 (by decide) ?_
    obtain ⟨rfl, rfl⟩ := jm_ret_ok hf
    exact jw_ri C hJ hS (Nat.le_refl _) (Nat.le_refl _) dX7_reset_11
  · replace hf := jm_iff hf hq1
    refine lv_iload_n C.1 C.2.1 dX7_reset_5 rfl (hl.at 1 rfl) ?_
    refine lv_iconst (v := 5) C.1 C.2.1 dX7_reset_6 (by decide) ?_
    refine lv_icmp_le (tgt := 12) C.1 C.2.1 dX7_reset_7 (by decide) (fun hq2 => ?_) (fun hq2 => ?_)
    · replace hf := jm_ift hf hq2
      refine jw_aload_n C dX7_reset_12 rfl (hl.at 0 rfl) ?_
      obtain ⟨v3, h3, hf⟩ := jm_rd_ok hf
      refine jw_gI (Cn := RX7) (T := TX7) (N := 12) C hJ h3 rfl inX7_reset_X7 (by decide) (jm_w C 1 rfl) (fun _ h => h) dX7_reset_13 ?_
      refine jw_istore_n C dX7_reset_16 rfl hl (by decide) rfl (fun ls hl => ?_)
      refine jw_aload_n C dX7_reset_17 rfl (hl.at 1 rfl) ?_
      refine lv_iload_n C.1 C.2.1 dX7_reset_18 rfl (hl.at 2 rfl) ?_
      obtain ⟨a4, o4, hf⟩ := jm_rd_ok hf
      obtain ⟨v4, S4, h4, hf⟩ := jm_bd_ok hf
      refine jw_cV (q := (RX7, TX7, 12)) C hJ hS o4 rfl (cX7_startAnew_C l G a4 x1 h4) (cwV 1 C.2.2.2.2.1 gX7_reset_X7_startAnew rfl rfl rfl (by decide +kernel) ⟨Nat.le_of_ble_eq_true rfl, Nat.le_of_ble_eq_true rfl⟩) rfl hl.1 rfl (Nat.le_of_ble_eq_true rfl) dX7_reset_19 ⟨Nat.le_refl _, Nat.le_refl _⟩ (fun H locs hJ hS => ?_)
      refine lv_iload_n C.1 C.2.1 dX7_reset_22 rfl (hl.at 0 rfl) ?_
      obtain ⟨rfl, rfl⟩ := jm_ret_ok hf
      exact jw_ri C hJ hS (Nat.le_refl _) (Nat.le_refl _) dX7_reset_23
    · replace hf := jm_iff hf hq2
      refine lv_iconst (v := (-1)) C.1 C.2.1 dX7_reset_10 (by decide) ?_
      obtain ⟨rfl, rfl⟩ := jm_ret_ok hf
      exact jw_ri C hJ hS (Nat.le_refl _) (Nat.le_refl _) dX7_reset_11
set_option maxHeartbeats 4000000 in
set_option maxRecDepth 100000 in
theorem cX7_reset_C (l : Launch) (G : jm_G) (h0 : Nat) (x1 : Int32) {S Sf : jm_S} {rv : Int32} (hf : fX7_reset h0 x1 S = some (rv, Sf)) : Met l yX7_reset wsX7_reset ({ frames := 3, cells := 0, slots := 0, locals := 70 } : Room) (jm_Pc G S [.ref h0, .int x1]) (jm_Q G (some (.int rv)) Sf) 0 0 (jm_A G) := by
  refine Met.ofW (cc := cX7_reset) (maxL := 3) (ret := (some .int)) (by decide) rfl ?_
  intro p e s m args below meth c s₁ B hml hv
  obtain ⟨rfl, hJ, hX⟩ := hv
  have C : jm_C G cX7_reset 3 RX7 wsX7_reset ((some .int)) p s m _ meth c := ⟨B.exec, B.bytes, hml, findClass_of_methodNamed B.named, atoms_spec (ws := wsX7_reset) B.pre, B.returns, B.notSynchronized, hX⟩
  obtain ⟨ls, he, hl⟩ := jm_entry m [.inr (some h0), .inl x1] (n := 3) (Nat.le_of_ble_eq_true rfl)
  have he : entryFrame m ([.ref h0, .int x1] : List Value).toArray 3 = F0 m 0 ls [] := he
  rw [he]
  exact kX7_reset C h0 x1 hf hJ va_S.rf (hl.sub [0, 1] rfl)
/-! CoordinationService.findServer -/
def fX7_findServer (h0 : Nat) (x1 : Int32) : jm_P (Option Nat) := (if x1 < 0 then jm_ret none else jm_rd (jm_gI (some h0) 8 4) fun v2 => (if x1 < v2 then jm_rd (jm_gR (some h0) 8 0) fun v4 => jm_rd (jm_gq v4 3 x1) fun v5 => jm_ret v5 else jm_ret none))
theorem inX7_findServer_X7 : ∀ w ∈ wsX70, w ∈ wsX7_findServer := fun _ h => List.mem_cons_of_mem _ (List.mem_append_right _ h)
theorem moX7_findServer (h0 : Nat) (x1 : Int32) : jm_Mo (fX7_findServer h0 x1) := by
  unfold fX7_findServer
  exact jm_Mo_if (jm_Mo_ret _) (jm_Mo_rd (fun _ => jm_Mo_if (jm_Mo_rd (fun _ => jm_Mo_rd (fun _ => jm_Mo_ret _))) (jm_Mo_ret _)))
set_option maxHeartbeats 4000000 in
set_option maxRecDepth 100000 in
theorem kX7_findServer {rv : (Option Nat)} {Sf : jm_S} (C : jm_C G cX7_findServer 2 RX7 wsX7_findServer ((some (.object "CoordinationService$Server"))) p s m args meth c) : ∀ (h0 : Nat) (x1 : Int32) {S : jm_S} {H : Heap} {locs : List Loc} {ls : Array Slot}, fX7_findServer h0 x1 S = some (rv, Sf) → jm_J G S H → va_S (jm_A G) s.heap H locs → jm_L ls 2 [(0, .inr (some h0)), (1, .inl x1)] → W p l e ({ frames := 0, cells := 0, slots := 0, locals := 0 } : Room) s m args below meth c H locs 0 0 (MQ below (jm_Q G (some (va_rf rv)) Sf) args s 0 0 (jm_A G)) (F0 m 0 ls []) := by
  intro h0 x1 S H locs ls hf hJ hS hl
  unfold fX7_findServer at hf
  refine lv_iload_n C.1 C.2.1 dX7_findServer_0 rfl (hl.at 1 rfl) ?_
  refine lv_if_lt (tgt := 12) C.1 C.2.1 dX7_findServer_1 (by decide) (fun hq1 => ?_) (fun hq1 => ?_)
  · replace hf := jm_ift hf hq1
    refine lv_null C.1 C.2.1 dX7_findServer_12 ?_
    show W _ _ _ _ _ _ _ _ _ _ _ _ _ _ _ (F0 _ _ _ (va_rf none :: _))
    refine lv_goto (tgt := 22) C.1 C.2.1 dX7_findServer_13 (by decide) ?_
    obtain ⟨rfl, rfl⟩ := jm_ret_ok hf
    exact jw_ra C (Or.inl ⟨_, rfl⟩) hJ hS (Nat.le_refl _) (Nat.le_refl _) dX7_findServer_22
  · replace hf := jm_iff hf hq1
    refine lv_iload_n C.1 C.2.1 dX7_findServer_4 rfl (hl.at 1 rfl) ?_
    refine jw_aload_n C dX7_findServer_5 rfl (hl.at 0 rfl) ?_
    obtain ⟨v2, h2, hf⟩ := jm_rd_ok hf
    refine jw_gI (Cn := RX7) (T := TX7) (N := 12) C hJ h2 rfl inX7_findServer_X7 (by decide) (jm_w C 1 rfl) (fun _ h => h) dX7_findServer_6 ?_
    refine lv_icmp_lt (tgt := 16) C.1 C.2.1 dX7_findServer_9 (by decide) (fun hq3 => ?_) (fun hq3 => ?_)
    · replace hf := jm_ift hf hq3
      refine jw_aload_n C dX7_findServer_16 rfl (hl.at 0 rfl) ?_
      obtain ⟨v4, h4, hf⟩ := jm_rd_ok hf
      refine jw_gR (Cn := RX7) (T := TX7) (N := 12) C hJ h4 rfl inX7_findServer_X7 (by decide) (jm_w C 2 rfl) (fun _ h => h) dX7_findServer_17 ?_
      refine lv_iload_n C.1 C.2.1 dX7_findServer_20 rfl (hl.at 1 rfl) ?_
      obtain ⟨v5, h5, hf⟩ := jm_rd_ok hf
      refine jw_aaload C hJ h5 (by decide) rfl dX7_findServer_21 ?_
      obtain ⟨rfl, rfl⟩ := jm_ret_ok hf
      exact jw_ra C (Or.inl ⟨_, rfl⟩) hJ hS (Nat.le_refl _) (Nat.le_refl _) dX7_findServer_22
    · replace hf := jm_iff hf hq3
      refine lv_null C.1 C.2.1 dX7_findServer_12 ?_
      show W _ _ _ _ _ _ _ _ _ _ _ _ _ _ _ (F0 _ _ _ (va_rf none :: _))
      refine lv_goto (tgt := 22) C.1 C.2.1 dX7_findServer_13 (by decide) ?_
      obtain ⟨rfl, rfl⟩ := jm_ret_ok hf
      exact jw_ra C (Or.inl ⟨_, rfl⟩) hJ hS (Nat.le_refl _) (Nat.le_refl _) dX7_findServer_22
set_option maxHeartbeats 4000000 in
set_option maxRecDepth 100000 in
theorem cX7_findServer_C (l : Launch) (G : jm_G) (h0 : Nat) (x1 : Int32) {S Sf : jm_S} {rv : (Option Nat)} (hf : fX7_findServer h0 x1 S = some (rv, Sf)) : Met l yX7_findServer wsX7_findServer ({ frames := 0, cells := 0, slots := 0, locals := 0 } : Room) (jm_Pc G S [.ref h0, .int x1]) (jm_Q G (some (va_rf rv)) Sf) 0 0 (jm_A G) := by
  refine Met.ofW (cc := cX7_findServer) (maxL := 2) (ret := (some (.object "CoordinationService$Server"))) (by decide) rfl ?_
  intro p e s m args below meth c s₁ B hml hv
  obtain ⟨rfl, hJ, hX⟩ := hv
  have C : jm_C G cX7_findServer 2 RX7 wsX7_findServer ((some (.object "CoordinationService$Server"))) p s m _ meth c := ⟨B.exec, B.bytes, hml, findClass_of_methodNamed B.named, atoms_spec (ws := wsX7_findServer) B.pre, B.returns, B.notSynchronized, hX⟩
  obtain ⟨ls, he, hl⟩ := jm_entry m [.inr (some h0), .inl x1] (n := 2) (Nat.le_of_ble_eq_true rfl)
  have he : entryFrame m ([.ref h0, .int x1] : List Value).toArray 2 = F0 m 0 ls [] := he
  rw [he]
  exact kX7_findServer C h0 x1 hf hJ va_S.rf (hl.sub [0, 1] rfl)
/-! CoordinationService$Watches.dropAllOf -/
def fX6_dropAllOf_10 : Nat → Nat → Int32 → Int32 → jm_P Unit
  | 0, _, _, _ => jm_no
  | n + 1, h0, x1, x2 => (if x2 < 0 then jm_ret () else jm_rd (jm_gR (some h0) 7 0) fun v4 => jm_rd (jm_o v4 0) fun a5 => jm_bd (fJx4a65c_get_915e3 a5 x2) fun v5 => jm_rd (jm_ck v5 6) fun _ => jm_rd (jm_gI v5 6 0) fun v7 => (if v7 = x1 then jm_rd (jm_gR (some h0) 7 0) fun v9 => jm_rd (jm_o v9 0) fun a10 => jm_bd (fJx4a65c_remove_915e3 a10 x2) fun v10 => fX6_dropAllOf_10 n h0 x1 (x2 + (-1)) else fX6_dropAllOf_10 n h0 x1 (x2 + (-1))))
def fX6_dropAllOf (h0 : Nat) (x1 : Int32) : jm_P Unit := jm_rd (jm_gR (some h0) 7 0) fun v1 => jm_rd (jm_o v1 0) fun a2 => jm_bd (fJx4a65c_size_8abf5 a2) fun v2 => fX6_dropAllOf_10 4096 h0 x1 (v2 - 1)
theorem inX6_dropAllOf_X6 : ∀ w ∈ wsX60, w ∈ wsX6_dropAllOf := fun _ h => List.mem_cons_of_mem _ (List.mem_append_left _ (List.mem_append_left _ (List.mem_append_right _ h)))
theorem inX6_dropAllOf_X5 : ∀ w ∈ wsX50, w ∈ wsX6_dropAllOf := fun _ h => List.mem_cons_of_mem _ (List.mem_append_left _ (List.mem_append_right _ h))
theorem moX6_dropAllOf_10 : ∀ (n : Nat) (h0 : Nat) (x1 : Int32) (x2 : Int32), jm_Mo (fX6_dropAllOf_10 n h0 x1 x2) := by
  intro n
  induction n with
  | zero =>
    intro h0 x1 x2
    rw [fX6_dropAllOf_10]
    exact jm_Mo_no
  | succ n ih =>
    intro h0 x1 x2
    rw [fX6_dropAllOf_10]
    exact jm_Mo_if (jm_Mo_ret _) (jm_Mo_rd (fun _ => jm_Mo_rd (fun _ => jm_Mo_bd (moJx4a65c_get_915e3 _ _) (fun _ => jm_Mo_rd (fun _ => jm_Mo_rd (fun _ => jm_Mo_if (jm_Mo_rd (fun _ => jm_Mo_rd (fun _ => jm_Mo_bd (moJx4a65c_remove_915e3 _ _) (fun _ => ih _ _ _)))) (ih _ _ _)))))))
set_option maxHeartbeats 4000000 in
set_option maxRecDepth 100000 in
theorem kX6_dropAllOf_10 {rv : Unit} {Sf : jm_S} (C : jm_C G cX6_dropAllOf 3 RX6 wsX6_dropAllOf (none) p s m args meth c) : ∀ (n : Nat) (h0 : Nat) (x1 : Int32) (x2 : Int32) {S : jm_S} {H : Heap} {locs : List Loc} {ls : Array Slot}, fX6_dropAllOf_10 n h0 x1 x2 S = some (rv, Sf) → jm_J G S H → va_S (jm_A G) s.heap H locs → jm_L ls 3 [(0, .inr (some h0)), (1, .inl x1), (2, .inl x2)] → W p l e ({ frames := 3, cells := 0, slots := 0, locals := 86 } : Room) s m args below meth c H locs 0 0 (MQ below (jm_Q G (none) Sf) args s 0 0 (jm_A G)) (F0 m 10 ls []) := by
  intro n
  induction n with
  | zero =>
    intro h0 x1 x2 S H locs ls hf
    rw [fX6_dropAllOf_10] at hf
    exact absurd hf (fun h => jm_no_ok h)
  | succ n ih =>
    intro h0 x1 x2 S H locs ls hf hJ hS hl
    rw [fX6_dropAllOf_10] at hf
    refine lv_iload_n C.1 C.2.1 dX6_dropAllOf_10 rfl (hl.at 2 rfl) ?_
    refine lv_if_lt (tgt := 47) C.1 C.2.1 dX6_dropAllOf_11 (by decide) (fun hq3 => ?_) (fun hq3 => ?_)
    · replace hf := jm_ift hf hq3
      obtain ⟨rfl, rfl⟩ := jm_ret_ok hf
      exact jw_rv C hJ hS (Nat.le_refl _) (Nat.le_refl _) dX6_dropAllOf_47
    · replace hf := jm_iff hf hq3
      refine jw_aload_n C dX6_dropAllOf_14 rfl (hl.at 0 rfl) ?_
      obtain ⟨v4, h4, hf⟩ := jm_rd_ok hf
      refine jw_gR (Cn := RX6) (T := TX6) (N := 1) C hJ h4 rfl inX6_dropAllOf_X6 (by decide) (jm_w C 1 rfl) (fun _ h => h) dX6_dropAllOf_15 ?_
      refine lv_iload_n C.1 C.2.1 dX6_dropAllOf_18 rfl (hl.at 2 rfl) ?_
      obtain ⟨a5, o5, hf⟩ := jm_rd_ok hf
      obtain ⟨v5, S5, h5, hf⟩ := jm_bd_ok hf
      refine jw_cV (q := (RJx4a65c, TJx4a65c, 3)) C hJ hS o5 rfl (cJx4a65c_get_915e3_C l G a5 x2 h5) (cwV 1 C.2.2.2.2.1 gX6_dropAllOf_Jx4a65c_get_915e3 rfl rfl rfl (by decide +kernel) ⟨Nat.le_of_ble_eq_true rfl, Nat.le_of_ble_eq_true rfl⟩) rfl hl.1 rfl (Nat.le_of_ble_eq_true rfl) dX6_dropAllOf_19 ⟨Nat.le_refl _, Nat.le_refl _⟩ (fun H locs hJ hS => ?_)
      obtain ⟨u6, h6, hf⟩ := jm_rd_ok hf
      refine jw_ck (q := (RX5, TX5, 3)) C hJ h6 rfl (jm_w C 2 rfl) dX6_dropAllOf_22 ?_
      obtain ⟨v7, h7, hf⟩ := jm_rd_ok hf
      refine jw_gI (Cn := RX5) (T := TX5) (N := 3) C hJ h7 rfl inX6_dropAllOf_X5 (by decide) (jm_w C 3 rfl) (fun _ h => h) dX6_dropAllOf_25 ?_
      refine lv_iload_n C.1 C.2.1 dX6_dropAllOf_28 rfl (hl.at 1 rfl) ?_
      refine lv_icmp_ne (tgt := 41) C.1 C.2.1 dX6_dropAllOf_29 (by decide) (fun hq8 => ?_) (fun hq8 => ?_)
      · replace hf := jm_iff hf hq8
        refine jw_iinc (v := x2 + (-1)) C 2 dX6_dropAllOf_41 hl rfl (by rfl) (by decide) rfl (fun ls hl => ?_)
        refine lv_goto (tgt := 10) C.1 C.2.1 dX6_dropAllOf_44 (by decide) ?_
        exact ih h0 x1 (x2 + (-1)) hf hJ hS (hl.sub [1, 2, 0] rfl)
      · replace hf := jm_ift hf hq8
        refine jw_aload_n C dX6_dropAllOf_32 rfl (hl.at 0 rfl) ?_
        obtain ⟨v9, h9, hf⟩ := jm_rd_ok hf
        refine jw_gR (Cn := RX6) (T := TX6) (N := 1) C hJ h9 rfl inX6_dropAllOf_X6 (by decide) (jm_w C 1 rfl) (fun _ h => h) dX6_dropAllOf_33 ?_
        refine lv_iload_n C.1 C.2.1 dX6_dropAllOf_36 rfl (hl.at 2 rfl) ?_
        obtain ⟨a10, o10, hf⟩ := jm_rd_ok hf
        obtain ⟨v10, S10, h10, hf⟩ := jm_bd_ok hf
        refine jw_cV (q := (RJx4a65c, TJx4a65c, 3)) C hJ hS o10 rfl (cJx4a65c_remove_915e3_C l G a10 x2 h10) (cwV 1 C.2.2.2.2.1 gX6_dropAllOf_Jx4a65c_remove_915e3 rfl rfl rfl (by decide +kernel) ⟨Nat.le_of_ble_eq_true rfl, Nat.le_of_ble_eq_true rfl⟩) rfl hl.1 rfl (Nat.le_of_ble_eq_true rfl) dX6_dropAllOf_37 ⟨Nat.le_refl _, Nat.le_refl _⟩ (fun H locs hJ hS => ?_)
        refine lv_pop C.1 C.2.1 dX6_dropAllOf_40 (jm_catr _) ?_
        refine jw_iinc (v := x2 + (-1)) C 2 dX6_dropAllOf_41 hl rfl (by rfl) (by decide) rfl (fun ls hl => ?_)
        refine lv_goto (tgt := 10) C.1 C.2.1 dX6_dropAllOf_44 (by decide) ?_
        exact ih h0 x1 (x2 + (-1)) hf hJ hS (hl.sub [1, 2, 0] rfl)
theorem moX6_dropAllOf (h0 : Nat) (x1 : Int32) : jm_Mo (fX6_dropAllOf h0 x1) := by
  unfold fX6_dropAllOf
  exact jm_Mo_rd (fun _ => jm_Mo_rd (fun _ => jm_Mo_bd (moJx4a65c_size_8abf5 _) (fun _ => moX6_dropAllOf_10 _ _ _ _)))
set_option maxHeartbeats 4000000 in
set_option maxRecDepth 100000 in
theorem kX6_dropAllOf {rv : Unit} {Sf : jm_S} (C : jm_C G cX6_dropAllOf 3 RX6 wsX6_dropAllOf (none) p s m args meth c) : ∀ (h0 : Nat) (x1 : Int32) {S : jm_S} {H : Heap} {locs : List Loc} {ls : Array Slot}, fX6_dropAllOf h0 x1 S = some (rv, Sf) → jm_J G S H → va_S (jm_A G) s.heap H locs → jm_L ls 3 [(0, .inr (some h0)), (1, .inl x1)] → W p l e ({ frames := 3, cells := 0, slots := 0, locals := 86 } : Room) s m args below meth c H locs 0 0 (MQ below (jm_Q G (none) Sf) args s 0 0 (jm_A G)) (F0 m 0 ls []) := by
  intro h0 x1 S H locs ls hf hJ hS hl
  unfold fX6_dropAllOf at hf
  refine jw_aload_n C dX6_dropAllOf_0 rfl (hl.at 0 rfl) ?_
  obtain ⟨v1, h1, hf⟩ := jm_rd_ok hf
  refine jw_gR (Cn := RX6) (T := TX6) (N := 1) C hJ h1 rfl inX6_dropAllOf_X6 (by decide) (jm_w C 1 rfl) (fun _ h => h) dX6_dropAllOf_1 ?_
  obtain ⟨a2, o2, hf⟩ := jm_rd_ok hf
  obtain ⟨v2, S2, h2, hf⟩ := jm_bd_ok hf
  refine jw_cV (q := (RJx4a65c, TJx4a65c, 3)) C hJ hS o2 rfl (cJx4a65c_size_8abf5_C l G a2 h2) (cwV 0 C.2.2.2.2.1 gX6_dropAllOf_Jx4a65c_size_8abf5 rfl rfl rfl (by decide +kernel) ⟨Nat.le_of_ble_eq_true rfl, Nat.le_of_ble_eq_true rfl⟩) rfl hl.1 rfl (Nat.le_of_ble_eq_true rfl) dX6_dropAllOf_4 ⟨Nat.le_refl _, Nat.le_refl _⟩ (fun H locs hJ hS => ?_)
  refine lv_iconst (v := 1) C.1 C.2.1 dX6_dropAllOf_7 (by decide) ?_
  refine lv_isub C.1 C.2.1 dX6_dropAllOf_8 ?_
  refine jw_istore_n C dX6_dropAllOf_9 rfl hl (by decide) rfl (fun ls hl => ?_)
  exact kX6_dropAllOf_10 C 4096 h0 x1 (v2 - 1) hf hJ hS (hl.sub [1, 2, 0] rfl)
set_option maxHeartbeats 4000000 in
set_option maxRecDepth 100000 in
theorem cX6_dropAllOf_C (l : Launch) (G : jm_G) (h0 : Nat) (x1 : Int32) {S Sf : jm_S} {rv : Unit} (hf : fX6_dropAllOf h0 x1 S = some (rv, Sf)) : Met l yX6_dropAllOf wsX6_dropAllOf ({ frames := 3, cells := 0, slots := 0, locals := 86 } : Room) (jm_Pc G S [.ref h0, .int x1]) (jm_Q G (none) Sf) 0 0 (jm_A G) := by
  refine Met.ofW (cc := cX6_dropAllOf) (maxL := 3) (ret := none) (by decide) rfl ?_
  intro p e s m args below meth c s₁ B hml hv
  obtain ⟨rfl, hJ, hX⟩ := hv
  have C : jm_C G cX6_dropAllOf 3 RX6 wsX6_dropAllOf (none) p s m _ meth c := ⟨B.exec, B.bytes, hml, findClass_of_methodNamed B.named, atoms_spec (ws := wsX6_dropAllOf) B.pre, B.returns, B.notSynchronized, hX⟩
  obtain ⟨ls, he, hl⟩ := jm_entry m [.inr (some h0), .inl x1] (n := 3) (Nat.le_of_ble_eq_true rfl)
  have he : entryFrame m ([.ref h0, .int x1] : List Value).toArray 3 = F0 m 0 ls [] := he
  rw [he]
  exact kX6_dropAllOf C h0 x1 hf hJ va_S.rf (hl.sub [0, 1] rfl)
/-! CoordinationService.countActiveWithLogOf -/
def fX7_countActiveWithLogOf_14 : Nat → Int32 → Int32 → Option Nat → Int32 → Int32 → jm_P Int32
  | 0, _, _, _, _, _ => jm_no
  | n + 1, x1, x2, x3, x4, x5 => (if x4 ≤ x5 then jm_ret x2 else jm_rd (jm_gq x3 3 x5) fun v4 => jm_rd (jm_gI v4 2 4) fun v5 => (if v5 = 0 then fX7_countActiveWithLogOf_14 n x1 x2 x3 x4 (x5 + 1) else jm_rd (jm_gR v4 2 2) fun v7 => jm_rd (jm_o v7 0) fun a8 => jm_bd (fJx4a65c_size_8abf5 a8) fun v8 => (if v8 < x1 then fX7_countActiveWithLogOf_14 n x1 x2 x3 x4 (x5 + 1) else fX7_countActiveWithLogOf_14 n x1 (x2 + 1) x3 x4 (x5 + 1))))
def fX7_countActiveWithLogOf (h0 : Nat) (x1 : Int32) : jm_P Int32 := jm_rd (jm_gR (some h0) 8 0) fun v1 => jm_rd (jm_lq v1 3) fun v2 => fX7_countActiveWithLogOf_14 4096 x1 0 v1 v2 0
theorem inX7_countActiveWithLogOf_X7 : ∀ w ∈ wsX70, w ∈ wsX7_countActiveWithLogOf := fun _ h => List.mem_cons_of_mem _ (List.mem_append_left _ (List.mem_append_left _ (List.mem_append_right _ h)))
theorem inX7_countActiveWithLogOf_X1 : ∀ w ∈ wsX10, w ∈ wsX7_countActiveWithLogOf := fun _ h => List.mem_cons_of_mem _ (List.mem_append_left _ (List.mem_append_right _ h))
theorem moX7_countActiveWithLogOf_14 : ∀ (n : Nat) (x1 : Int32) (x2 : Int32) (x3 : Option Nat) (x4 : Int32) (x5 : Int32), jm_Mo (fX7_countActiveWithLogOf_14 n x1 x2 x3 x4 x5) := by
  intro n
  induction n with
  | zero =>
    intro x1 x2 x3 x4 x5
    rw [fX7_countActiveWithLogOf_14]
    exact jm_Mo_no
  | succ n ih =>
    intro x1 x2 x3 x4 x5
    rw [fX7_countActiveWithLogOf_14]
    exact jm_Mo_if (jm_Mo_ret _) (jm_Mo_rd (fun _ => jm_Mo_rd (fun _ => jm_Mo_if (ih _ _ _ _ _) (jm_Mo_rd (fun _ => jm_Mo_rd (fun _ => jm_Mo_bd (moJx4a65c_size_8abf5 _) (fun _ => jm_Mo_if (ih _ _ _ _ _) (ih _ _ _ _ _))))))))
set_option maxHeartbeats 4000000 in
set_option maxRecDepth 100000 in
theorem kX7_countActiveWithLogOf_14 {rv : Int32} {Sf : jm_S} (C : jm_C G cX7_countActiveWithLogOf 7 RX7 wsX7_countActiveWithLogOf ((some .int)) p s m args meth c) : ∀ (n : Nat) (x1 : Int32) (x2 : Int32) (x3 : Option Nat) (x4 : Int32) (x5 : Int32) {S : jm_S} {H : Heap} {locs : List Loc} {ls : Array Slot}, fX7_countActiveWithLogOf_14 n x1 x2 x3 x4 x5 S = some (rv, Sf) → jm_J G S H → va_S (jm_A G) s.heap H locs → jm_L ls 7 [(1, .inl x1), (2, .inl x2), (3, .inr x3), (4, .inl x4), (5, .inl x5)] → W p l e ({ frames := 1, cells := 0, slots := 0, locals := 20 } : Room) s m args below meth c H locs 0 0 (MQ below (jm_Q G (some (.int rv)) Sf) args s 0 0 (jm_A G)) (F0 m 14 ls []) := by
  intro n
  induction n with
  | zero =>
    intro x1 x2 x3 x4 x5 S H locs ls hf
    rw [fX7_countActiveWithLogOf_14] at hf
    exact absurd hf (fun h => jm_no_ok h)
  | succ n ih =>
    intro x1 x2 x3 x4 x5 S H locs ls hf hJ hS hl
    rw [fX7_countActiveWithLogOf_14] at hf
    refine lv_iload C.1 C.2.1 dX7_countActiveWithLogOf_14 (hl.at 4 rfl) ?_
    refine lv_iload C.1 C.2.1 dX7_countActiveWithLogOf_16 (hl.at 3 rfl) ?_
    refine lv_icmp_ge (tgt := 56) C.1 C.2.1 dX7_countActiveWithLogOf_18 (by decide) (fun hq3 => ?_) (fun hq3 => ?_)
    · replace hf := jm_ift hf hq3
      refine lv_iload_n C.1 C.2.1 dX7_countActiveWithLogOf_56 rfl (hl.at 1 rfl) ?_
      obtain ⟨rfl, rfl⟩ := jm_ret_ok hf
      exact jw_ri C hJ hS (Nat.le_refl _) (Nat.le_refl _) dX7_countActiveWithLogOf_57
    · replace hf := jm_iff hf hq3
      refine jw_aload_n C dX7_countActiveWithLogOf_21 rfl (hl.at 2 rfl) ?_
      refine lv_iload C.1 C.2.1 dX7_countActiveWithLogOf_22 (hl.at 4 rfl) ?_
      obtain ⟨v4, h4, hf⟩ := jm_rd_ok hf
      refine jw_aaload C hJ h4 (by decide) rfl dX7_countActiveWithLogOf_24 ?_
      refine jw_astore C dX7_countActiveWithLogOf_25 hl (by decide) rfl (fun ls hl => ?_)
      refine jw_aload C dX7_countActiveWithLogOf_27 (hl.at 0 rfl) ?_
      obtain ⟨v5, h5, hf⟩ := jm_rd_ok hf
      refine jw_gI (Cn := RX1) (T := TX1) (N := 7) C hJ h5 rfl inX7_countActiveWithLogOf_X1 (by decide) (jm_w C 2 rfl) (fun _ h => h) dX7_countActiveWithLogOf_29 ?_
      refine lv_if_eq (tgt := 50) C.1 C.2.1 dX7_countActiveWithLogOf_32 (by decide) (fun hq6 => ?_) (fun hq6 => ?_)
      · replace hf := jm_ift hf hq6
        refine jw_iinc (v := x5 + 1) C 5 dX7_countActiveWithLogOf_50 hl rfl (by rfl) (by decide) rfl (fun ls hl => ?_)
        refine lv_goto (tgt := 14) C.1 C.2.1 dX7_countActiveWithLogOf_53 (by decide) ?_
        exact ih x1 x2 x3 x4 (x5 + 1) hf hJ hS (hl.sub [2, 3, 4, 5, 0] rfl)
      · replace hf := jm_iff hf hq6
        refine jw_aload C dX7_countActiveWithLogOf_35 (hl.at 0 rfl) ?_
        obtain ⟨v7, h7, hf⟩ := jm_rd_ok hf
        refine jw_gR (Cn := RX1) (T := TX1) (N := 7) C hJ h7 rfl inX7_countActiveWithLogOf_X1 (by decide) (jm_w C 3 rfl) (fun _ h => h) dX7_countActiveWithLogOf_37 ?_
        obtain ⟨a8, o8, hf⟩ := jm_rd_ok hf
        obtain ⟨v8, S8, h8, hf⟩ := jm_bd_ok hf
        refine jw_cV (q := (RJx4a65c, TJx4a65c, 3)) C hJ hS o8 rfl (cJx4a65c_size_8abf5_C l G a8 h8) (cwV 0 C.2.2.2.2.1 gX7_countActiveWithLogOf_Jx4a65c_size_8abf5 rfl rfl rfl (by decide +kernel) ⟨Nat.le_of_ble_eq_true rfl, Nat.le_of_ble_eq_true rfl⟩) rfl hl.1 rfl (Nat.le_of_ble_eq_true rfl) dX7_countActiveWithLogOf_40 ⟨Nat.le_refl _, Nat.le_refl _⟩ (fun H locs hJ hS => ?_)
        refine lv_iload_n C.1 C.2.1 dX7_countActiveWithLogOf_43 rfl (hl.at 1 rfl) ?_
        refine lv_icmp_lt (tgt := 50) C.1 C.2.1 dX7_countActiveWithLogOf_44 (by decide) (fun hq9 => ?_) (fun hq9 => ?_)
        · replace hf := jm_ift hf hq9
          refine jw_iinc (v := x5 + 1) C 5 dX7_countActiveWithLogOf_50 hl rfl (by rfl) (by decide) rfl (fun ls hl => ?_)
          refine lv_goto (tgt := 14) C.1 C.2.1 dX7_countActiveWithLogOf_53 (by decide) ?_
          exact ih x1 x2 x3 x4 (x5 + 1) hf hJ hS (hl.sub [2, 3, 4, 5, 0] rfl)
        · replace hf := jm_iff hf hq9
          refine jw_iinc (v := x2 + 1) C 2 dX7_countActiveWithLogOf_47 hl rfl (by rfl) (by decide) rfl (fun ls hl => ?_)
          refine jw_iinc (v := x5 + 1) C 5 dX7_countActiveWithLogOf_50 hl rfl (by rfl) (by decide) rfl (fun ls hl => ?_)
          refine lv_goto (tgt := 14) C.1 C.2.1 dX7_countActiveWithLogOf_53 (by decide) ?_
          exact ih x1 (x2 + 1) x3 x4 (x5 + 1) hf hJ hS (hl.sub [3, 1, 4, 5, 0] rfl)
theorem moX7_countActiveWithLogOf (h0 : Nat) (x1 : Int32) : jm_Mo (fX7_countActiveWithLogOf h0 x1) := by
  unfold fX7_countActiveWithLogOf
  exact jm_Mo_rd (fun _ => jm_Mo_rd (fun _ => moX7_countActiveWithLogOf_14 _ _ _ _ _ _))
set_option maxHeartbeats 4000000 in
set_option maxRecDepth 100000 in
theorem kX7_countActiveWithLogOf {rv : Int32} {Sf : jm_S} (C : jm_C G cX7_countActiveWithLogOf 7 RX7 wsX7_countActiveWithLogOf ((some .int)) p s m args meth c) : ∀ (h0 : Nat) (x1 : Int32) {S : jm_S} {H : Heap} {locs : List Loc} {ls : Array Slot}, fX7_countActiveWithLogOf h0 x1 S = some (rv, Sf) → jm_J G S H → va_S (jm_A G) s.heap H locs → jm_L ls 7 [(0, .inr (some h0)), (1, .inl x1)] → W p l e ({ frames := 1, cells := 0, slots := 0, locals := 20 } : Room) s m args below meth c H locs 0 0 (MQ below (jm_Q G (some (.int rv)) Sf) args s 0 0 (jm_A G)) (F0 m 0 ls []) := by
  intro h0 x1 S H locs ls hf hJ hS hl
  unfold fX7_countActiveWithLogOf at hf
  refine lv_iconst (v := 0) C.1 C.2.1 dX7_countActiveWithLogOf_0 (by decide) ?_
  refine jw_istore_n C dX7_countActiveWithLogOf_1 rfl hl (by decide) rfl (fun ls hl => ?_)
  refine jw_aload_n C dX7_countActiveWithLogOf_2 rfl (hl.at 1 rfl) ?_
  obtain ⟨v1, h1, hf⟩ := jm_rd_ok hf
  refine jw_gR (Cn := RX7) (T := TX7) (N := 12) C hJ h1 rfl inX7_countActiveWithLogOf_X7 (by decide) (jm_w C 1 rfl) (fun _ h => h) dX7_countActiveWithLogOf_3 ?_
  refine jw_astore_n C dX7_countActiveWithLogOf_6 rfl hl (by decide) rfl (fun ls hl => ?_)
  refine jw_aload_n C dX7_countActiveWithLogOf_7 rfl (hl.at 0 rfl) ?_
  obtain ⟨v2, h2, hf⟩ := jm_rd_ok hf
  refine jw_lq C hJ hS h2 (by decide) rfl dX7_countActiveWithLogOf_8 ?_
  refine jw_istore C dX7_countActiveWithLogOf_9 hl (by decide) rfl (fun ls hl => ?_)
  refine lv_iconst (v := 0) C.1 C.2.1 dX7_countActiveWithLogOf_11 (by decide) ?_
  refine jw_istore C dX7_countActiveWithLogOf_12 hl (by decide) rfl (fun ls hl => ?_)
  exact kX7_countActiveWithLogOf_14 C 4096 x1 0 v1 v2 0 hf hJ hS (hl.sub [5, 3, 2, 1, 0] rfl)
set_option maxHeartbeats 4000000 in
set_option maxRecDepth 100000 in
theorem cX7_countActiveWithLogOf_C (l : Launch) (G : jm_G) (h0 : Nat) (x1 : Int32) {S Sf : jm_S} {rv : Int32} (hf : fX7_countActiveWithLogOf h0 x1 S = some (rv, Sf)) : Met l yX7_countActiveWithLogOf wsX7_countActiveWithLogOf ({ frames := 1, cells := 0, slots := 0, locals := 20 } : Room) (jm_Pc G S [.ref h0, .int x1]) (jm_Q G (some (.int rv)) Sf) 0 0 (jm_A G) := by
  refine Met.ofW (cc := cX7_countActiveWithLogOf) (maxL := 7) (ret := (some .int)) (by decide) rfl ?_
  intro p e s m args below meth c s₁ B hml hv
  obtain ⟨rfl, hJ, hX⟩ := hv
  have C : jm_C G cX7_countActiveWithLogOf 7 RX7 wsX7_countActiveWithLogOf ((some .int)) p s m _ meth c := ⟨B.exec, B.bytes, hml, findClass_of_methodNamed B.named, atoms_spec (ws := wsX7_countActiveWithLogOf) B.pre, B.returns, B.notSynchronized, hX⟩
  obtain ⟨ls, he, hl⟩ := jm_entry m [.inr (some h0), .inl x1] (n := 7) (Nat.le_of_ble_eq_true rfl)
  have he : entryFrame m ([.ref h0, .int x1] : List Value).toArray 7 = F0 m 0 ls [] := he
  rw [he]
  exact kX7_countActiveWithLogOf C h0 x1 hf hJ va_S.rf (hl.sub [0, 1] rfl)
/-! CoordinationService.countActive -/
def fX7_countActive (h0 : Nat) : jm_P Int32 := jm_rd (jm_o (some h0) 8) fun a1 => jm_bd (fX7_countActiveWithLogOf a1 0) fun v1 => jm_ret v1
theorem moX7_countActive (h0 : Nat) : jm_Mo (fX7_countActive h0) := by
  unfold fX7_countActive
  exact jm_Mo_rd (fun _ => jm_Mo_bd (moX7_countActiveWithLogOf _ _) (fun _ => jm_Mo_ret _))
set_option maxHeartbeats 4000000 in
set_option maxRecDepth 100000 in
theorem kX7_countActive {rv : Int32} {Sf : jm_S} (C : jm_C G cX7_countActive 1 RX7 wsX7_countActive ((some .int)) p s m args meth c) : ∀ (h0 : Nat) {S : jm_S} {H : Heap} {locs : List Loc} {ls : Array Slot}, fX7_countActive h0 S = some (rv, Sf) → jm_J G S H → va_S (jm_A G) s.heap H locs → jm_L ls 1 [(0, .inr (some h0))] → W p l e ({ frames := 2, cells := 0, slots := 0, locals := 46 } : Room) s m args below meth c H locs 0 0 (MQ below (jm_Q G (some (.int rv)) Sf) args s 0 0 (jm_A G)) (F0 m 0 ls []) := by
  intro h0 S H locs ls hf hJ hS hl
  unfold fX7_countActive at hf
  refine jw_aload_n C dX7_countActive_0 rfl (hl.at 0 rfl) ?_
  refine lv_iconst (v := 0) C.1 C.2.1 dX7_countActive_1 (by decide) ?_
  obtain ⟨a1, o1, hf⟩ := jm_rd_ok hf
  obtain ⟨v1, S1, h1, hf⟩ := jm_bd_ok hf
  refine jw_cV (q := (RX7, TX7, 12)) C hJ hS o1 rfl (cX7_countActiveWithLogOf_C l G a1 0 h1) (cwV 1 C.2.2.2.2.1 gX7_countActive_X7_countActiveWithLogOf rfl rfl rfl (by decide +kernel) ⟨Nat.le_of_ble_eq_true rfl, Nat.le_of_ble_eq_true rfl⟩) rfl hl.1 rfl (Nat.le_of_ble_eq_true rfl) dX7_countActive_2 ⟨Nat.le_refl _, Nat.le_refl _⟩ (fun H locs hJ hS => ?_)
  obtain ⟨rfl, rfl⟩ := jm_ret_ok hf
  exact jw_ri C hJ hS (Nat.le_refl _) (Nat.le_refl _) dX7_countActive_5
set_option maxHeartbeats 4000000 in
set_option maxRecDepth 100000 in
theorem cX7_countActive_C (l : Launch) (G : jm_G) (h0 : Nat) {S Sf : jm_S} {rv : Int32} (hf : fX7_countActive h0 S = some (rv, Sf)) : Met l yX7_countActive wsX7_countActive ({ frames := 2, cells := 0, slots := 0, locals := 46 } : Room) (jm_Pc G S [.ref h0]) (jm_Q G (some (.int rv)) Sf) 0 0 (jm_A G) := by
  refine Met.ofW (cc := cX7_countActive) (maxL := 1) (ret := (some .int)) (by decide) rfl ?_
  intro p e s m args below meth c s₁ B hml hv
  obtain ⟨rfl, hJ, hX⟩ := hv
  have C : jm_C G cX7_countActive 1 RX7 wsX7_countActive ((some .int)) p s m _ meth c := ⟨B.exec, B.bytes, hml, findClass_of_methodNamed B.named, atoms_spec (ws := wsX7_countActive) B.pre, B.returns, B.notSynchronized, hX⟩
  obtain ⟨ls, he, hl⟩ := jm_entry m [.inr (some h0)] (n := 1) (Nat.le_of_ble_eq_true rfl)
  have he : entryFrame m ([.ref h0] : List Value).toArray 1 = F0 m 0 ls [] := he
  rw [he]
  exact kX7_countActive C h0 hf hJ va_S.rf (hl.sub [0] rfl)
/-! CoordinationService.quorum -/
def fX7_quorum (h0 : Nat) : jm_P Int32 := jm_rd (jm_gI (some h0) 8 4) fun v1 => jm_ret ((v1 / 2) + 1)
theorem inX7_quorum_X7 : ∀ w ∈ wsX70, w ∈ wsX7_quorum := fun _ h => List.mem_cons_of_mem _ (List.mem_append_right _ h)
theorem moX7_quorum (h0 : Nat) : jm_Mo (fX7_quorum h0) := by
  unfold fX7_quorum
  exact jm_Mo_rd (fun _ => jm_Mo_ret _)
set_option maxHeartbeats 4000000 in
set_option maxRecDepth 100000 in
theorem kX7_quorum {rv : Int32} {Sf : jm_S} (C : jm_C G cX7_quorum 1 RX7 wsX7_quorum ((some .int)) p s m args meth c) : ∀ (h0 : Nat) {S : jm_S} {H : Heap} {locs : List Loc} {ls : Array Slot}, fX7_quorum h0 S = some (rv, Sf) → jm_J G S H → va_S (jm_A G) s.heap H locs → jm_L ls 1 [(0, .inr (some h0))] → W p l e ({ frames := 0, cells := 0, slots := 0, locals := 0 } : Room) s m args below meth c H locs 0 0 (MQ below (jm_Q G (some (.int rv)) Sf) args s 0 0 (jm_A G)) (F0 m 0 ls []) := by
  intro h0 S H locs ls hf hJ hS hl
  unfold fX7_quorum at hf
  refine jw_aload_n C dX7_quorum_0 rfl (hl.at 0 rfl) ?_
  obtain ⟨v1, h1, hf⟩ := jm_rd_ok hf
  refine jw_gI (Cn := RX7) (T := TX7) (N := 12) C hJ h1 rfl inX7_quorum_X7 (by decide) (jm_w C 1 rfl) (fun _ h => h) dX7_quorum_1 ?_
  refine lv_iconst (v := 2) C.1 C.2.1 dX7_quorum_4 (by decide) ?_
  refine lv_idiv C.1 C.2.1 dX7_quorum_5 (by decide) ?_
  refine lv_iconst (v := 1) C.1 C.2.1 dX7_quorum_6 (by decide) ?_
  refine lv_iadd C.1 C.2.1 dX7_quorum_7 ?_
  obtain ⟨rfl, rfl⟩ := jm_ret_ok hf
  exact jw_ri C hJ hS (Nat.le_refl _) (Nat.le_refl _) dX7_quorum_8
set_option maxHeartbeats 4000000 in
set_option maxRecDepth 100000 in
theorem cX7_quorum_C (l : Launch) (G : jm_G) (h0 : Nat) {S Sf : jm_S} {rv : Int32} (hf : fX7_quorum h0 S = some (rv, Sf)) : Met l yX7_quorum wsX7_quorum ({ frames := 0, cells := 0, slots := 0, locals := 0 } : Room) (jm_Pc G S [.ref h0]) (jm_Q G (some (.int rv)) Sf) 0 0 (jm_A G) := by
  refine Met.ofW (cc := cX7_quorum) (maxL := 1) (ret := (some .int)) (by decide) rfl ?_
  intro p e s m args below meth c s₁ B hml hv
  obtain ⟨rfl, hJ, hX⟩ := hv
  have C : jm_C G cX7_quorum 1 RX7 wsX7_quorum ((some .int)) p s m _ meth c := ⟨B.exec, B.bytes, hml, findClass_of_methodNamed B.named, atoms_spec (ws := wsX7_quorum) B.pre, B.returns, B.notSynchronized, hX⟩
  obtain ⟨ls, he, hl⟩ := jm_entry m [.inr (some h0)] (n := 1) (Nat.le_of_ble_eq_true rfl)
  have he : entryFrame m ([.ref h0] : List Value).toArray 1 = F0 m 0 ls [] := he
  rw [he]
  exact kX7_quorum C h0 hf hJ va_S.rf (hl.sub [0] rfl)
/-! CoordinationService.endLeadership -/
def fX7_endLeadership_15 : Nat → Option Nat → Int32 → Int32 → jm_P Unit
  | 0, _, _, _ => jm_no
  | n + 1, x1, x2, x3 => (if x2 ≤ x3 then jm_ret () else jm_rd (jm_gq x1 3 x3) fun v5 => jm_rd (jm_z 0) fun _ => jm_wr (jm_p v5 2 4 (.inl 0)) <| fX7_endLeadership_15 n x1 x2 (x3 + 1))
def fX7_endLeadership (h0 : Nat) : jm_P Unit := jm_wr (jm_p (some h0) 8 6 (.inr none)) <| jm_rd (jm_gR (some h0) 8 0) fun v2 => jm_rd (jm_lq v2 3) fun v3 => fX7_endLeadership_15 4096 v2 v3 0
theorem inX7_endLeadership_X7 : ∀ w ∈ wsX70, w ∈ wsX7_endLeadership := fun _ h => List.mem_cons_of_mem _ (List.mem_append_left _ (List.mem_append_right _ h))
theorem inX7_endLeadership_X1 : ∀ w ∈ wsX10, w ∈ wsX7_endLeadership := fun _ h => List.mem_cons_of_mem _ (List.mem_append_right _ h)
theorem moX7_endLeadership_15 : ∀ (n : Nat) (x1 : Option Nat) (x2 : Int32) (x3 : Int32), jm_Mo (fX7_endLeadership_15 n x1 x2 x3) := by
  intro n
  induction n with
  | zero =>
    intro x1 x2 x3
    rw [fX7_endLeadership_15]
    exact jm_Mo_no
  | succ n ih =>
    intro x1 x2 x3
    rw [fX7_endLeadership_15]
    exact jm_Mo_if (jm_Mo_ret _) (jm_Mo_rd (fun _ => jm_Mo_rd (fun _ => jm_Mo_wr jm_p_st (ih _ _ _))))
set_option maxHeartbeats 4000000 in
set_option maxRecDepth 100000 in
theorem kX7_endLeadership_15 {rv : Unit} {Sf : jm_S} (C : jm_C G cX7_endLeadership 5 RX7 wsX7_endLeadership (none) p s m args meth c) : ∀ (n : Nat) (x1 : Option Nat) (x2 : Int32) (x3 : Int32) {S : jm_S} {H : Heap} {locs : List Loc} {ls : Array Slot}, fX7_endLeadership_15 n x1 x2 x3 S = some (rv, Sf) → jm_J G S H → va_S (jm_A G) s.heap H locs → jm_L ls 5 [(1, .inr x1), (2, .inl x2), (3, .inl x3)] → W p l e ({ frames := 0, cells := 0, slots := 0, locals := 0 } : Room) s m args below meth c H locs 0 0 (MQ below (jm_Q G (none) Sf) args s 0 0 (jm_A G)) (F0 m 15 ls []) := by
  intro n
  induction n with
  | zero =>
    intro x1 x2 x3 S H locs ls hf
    rw [fX7_endLeadership_15] at hf
    exact absurd hf (fun h => jm_no_ok h)
  | succ n ih =>
    intro x1 x2 x3 S H locs ls hf hJ hS hl
    rw [fX7_endLeadership_15] at hf
    refine lv_iload_n C.1 C.2.1 dX7_endLeadership_15 rfl (hl.at 2 rfl) ?_
    refine lv_iload_n C.1 C.2.1 dX7_endLeadership_16 rfl (hl.at 1 rfl) ?_
    refine lv_icmp_ge (tgt := 37) C.1 C.2.1 dX7_endLeadership_17 (by decide) (fun hq4 => ?_) (fun hq4 => ?_)
    · replace hf := jm_ift hf hq4
      obtain ⟨rfl, rfl⟩ := jm_ret_ok hf
      exact jw_rv C hJ hS (Nat.le_refl _) (Nat.le_refl _) dX7_endLeadership_37
    · replace hf := jm_iff hf hq4
      refine jw_aload_n C dX7_endLeadership_20 rfl (hl.at 0 rfl) ?_
      refine lv_iload_n C.1 C.2.1 dX7_endLeadership_21 rfl (hl.at 2 rfl) ?_
      obtain ⟨v5, h5, hf⟩ := jm_rd_ok hf
      refine jw_aaload C hJ h5 (by decide) rfl dX7_endLeadership_22 ?_
      refine jw_astore C dX7_endLeadership_23 hl (by decide) rfl (fun ls hl => ?_)
      refine jw_aload C dX7_endLeadership_25 (hl.at 0 rfl) ?_
      refine lv_iconst (v := 0) C.1 C.2.1 dX7_endLeadership_27 (by decide) ?_
      obtain ⟨u6, z6, hf⟩ := jm_rd_ok hf
      obtain ⟨S6, h6, hf⟩ := jm_wr_ok hf
      refine jw_p (x := .inl 0) (ty := .boolean) (Cn := RX1) (T := TX1) (N := 7) C hJ hS h6 rfl inX7_endLeadership_X1 tyX1 tyX1_ok nmX1 (by decide) (jm_w C 3 rfl) (fun _ h => h) rfl (by decide +kernel) (jm_nz z6).1 (jm_nz z6).2.1 dX7_endLeadership_28 (fun H locs hJ hS => ?_)
      refine jw_iinc (v := x3 + 1) C 3 dX7_endLeadership_31 hl rfl (by rfl) (by decide) rfl (fun ls hl => ?_)
      refine lv_goto (tgt := 15) C.1 C.2.1 dX7_endLeadership_34 (by decide) ?_
      exact ih x1 x2 (x3 + 1) hf hJ hS (hl.sub [2, 3, 0] rfl)
theorem moX7_endLeadership (h0 : Nat) : jm_Mo (fX7_endLeadership h0) := by
  unfold fX7_endLeadership
  exact jm_Mo_wr jm_p_st (jm_Mo_rd (fun _ => jm_Mo_rd (fun _ => moX7_endLeadership_15 _ _ _ _)))
set_option maxHeartbeats 4000000 in
set_option maxRecDepth 100000 in
theorem kX7_endLeadership {rv : Unit} {Sf : jm_S} (C : jm_C G cX7_endLeadership 5 RX7 wsX7_endLeadership (none) p s m args meth c) : ∀ (h0 : Nat) {S : jm_S} {H : Heap} {locs : List Loc} {ls : Array Slot}, fX7_endLeadership h0 S = some (rv, Sf) → jm_J G S H → va_S (jm_A G) s.heap H locs → jm_L ls 5 [(0, .inr (some h0))] → W p l e ({ frames := 0, cells := 0, slots := 0, locals := 0 } : Room) s m args below meth c H locs 0 0 (MQ below (jm_Q G (none) Sf) args s 0 0 (jm_A G)) (F0 m 0 ls []) := by
  intro h0 S H locs ls hf hJ hS hl
  unfold fX7_endLeadership at hf
  refine jw_aload_n C dX7_endLeadership_0 rfl (hl.at 0 rfl) ?_
  refine lv_null C.1 C.2.1 dX7_endLeadership_1 ?_
  show W _ _ _ _ _ _ _ _ _ _ _ _ _ _ _ (F0 _ _ _ (va_rf none :: _))
  obtain ⟨S1, h1, hf⟩ := jm_wr_ok hf
  refine jw_p (x := .inr none) (ty := (.object "CoordinationService$Server")) (Cn := RX7) (T := TX7) (N := 12) C hJ hS h1 rfl inX7_endLeadership_X7 tyX7 tyX7_ok nmX7 (by decide) (jm_w C 1 rfl) (fun _ h => h) rfl (by decide +kernel) (jm_nr _ none).1 (jm_nr _ none).2 dX7_endLeadership_2 (fun H locs hJ hS => ?_)
  refine jw_aload_n C dX7_endLeadership_5 rfl (hl.at 0 rfl) ?_
  obtain ⟨v2, h2, hf⟩ := jm_rd_ok hf
  refine jw_gR (Cn := RX7) (T := TX7) (N := 12) C hJ h2 rfl inX7_endLeadership_X7 (by decide) (jm_w C 2 rfl) (fun _ h => h) dX7_endLeadership_6 ?_
  refine jw_astore_n C dX7_endLeadership_9 rfl hl (by decide) rfl (fun ls hl => ?_)
  refine jw_aload_n C dX7_endLeadership_10 rfl (hl.at 0 rfl) ?_
  obtain ⟨v3, h3, hf⟩ := jm_rd_ok hf
  refine jw_lq C hJ hS h3 (by decide) rfl dX7_endLeadership_11 ?_
  refine jw_istore_n C dX7_endLeadership_12 rfl hl (by decide) rfl (fun ls hl => ?_)
  refine lv_iconst (v := 0) C.1 C.2.1 dX7_endLeadership_13 (by decide) ?_
  refine jw_istore_n C dX7_endLeadership_14 rfl hl (by decide) rfl (fun ls hl => ?_)
  exact kX7_endLeadership_15 C 4096 v2 v3 0 hf hJ hS (hl.sub [2, 1, 0] rfl)
set_option maxHeartbeats 4000000 in
set_option maxRecDepth 100000 in
theorem cX7_endLeadership_C (l : Launch) (G : jm_G) (h0 : Nat) {S Sf : jm_S} {rv : Unit} (hf : fX7_endLeadership h0 S = some (rv, Sf)) : Met l yX7_endLeadership wsX7_endLeadership ({ frames := 0, cells := 0, slots := 0, locals := 0 } : Room) (jm_Pc G S [.ref h0]) (jm_Q G (none) Sf) 0 0 (jm_A G) := by
  refine Met.ofW (cc := cX7_endLeadership) (maxL := 5) (ret := none) (by decide) rfl ?_
  intro p e s m args below meth c s₁ B hml hv
  obtain ⟨rfl, hJ, hX⟩ := hv
  have C : jm_C G cX7_endLeadership 5 RX7 wsX7_endLeadership (none) p s m _ meth c := ⟨B.exec, B.bytes, hml, findClass_of_methodNamed B.named, atoms_spec (ws := wsX7_endLeadership) B.pre, B.returns, B.notSynchronized, hX⟩
  obtain ⟨ls, he, hl⟩ := jm_entry m [.inr (some h0)] (n := 5) (Nat.le_of_ble_eq_true rfl)
  have he : entryFrame m ([.ref h0] : List Value).toArray 5 = F0 m 0 ls [] := he
  rw [he]
  exact kX7_endLeadership C h0 hf hJ va_S.rf (hl.sub [0] rfl)
/-! CoordinationService.countUp -/
def fX7_countUp_13 : Nat → Int32 → Option Nat → Int32 → Int32 → jm_P Int32
  | 0, _, _, _, _ => jm_no
  | n + 1, x1, x2, x3, x4 => (if x3 ≤ x4 then jm_ret x1 else jm_rd (jm_gq x2 3 x4) fun v4 => jm_rd (jm_gI v4 2 3) fun v5 => (if v5 = 0 then fX7_countUp_13 n x1 x2 x3 (x4 + 1) else fX7_countUp_13 n (x1 + 1) x2 x3 (x4 + 1)))
def fX7_countUp (h0 : Nat) : jm_P Int32 := jm_rd (jm_gR (some h0) 8 0) fun v1 => jm_rd (jm_lq v1 3) fun v2 => fX7_countUp_13 4096 0 v1 v2 0
theorem inX7_countUp_X7 : ∀ w ∈ wsX70, w ∈ wsX7_countUp := fun _ h => List.mem_cons_of_mem _ (List.mem_append_left _ (List.mem_append_right _ h))
theorem inX7_countUp_X1 : ∀ w ∈ wsX10, w ∈ wsX7_countUp := fun _ h => List.mem_cons_of_mem _ (List.mem_append_right _ h)
theorem moX7_countUp_13 : ∀ (n : Nat) (x1 : Int32) (x2 : Option Nat) (x3 : Int32) (x4 : Int32), jm_Mo (fX7_countUp_13 n x1 x2 x3 x4) := by
  intro n
  induction n with
  | zero =>
    intro x1 x2 x3 x4
    rw [fX7_countUp_13]
    exact jm_Mo_no
  | succ n ih =>
    intro x1 x2 x3 x4
    rw [fX7_countUp_13]
    exact jm_Mo_if (jm_Mo_ret _) (jm_Mo_rd (fun _ => jm_Mo_rd (fun _ => jm_Mo_if (ih _ _ _ _) (ih _ _ _ _))))
set_option maxHeartbeats 4000000 in
set_option maxRecDepth 100000 in
theorem kX7_countUp_13 {rv : Int32} {Sf : jm_S} (C : jm_C G cX7_countUp 6 RX7 wsX7_countUp ((some .int)) p s m args meth c) : ∀ (n : Nat) (x1 : Int32) (x2 : Option Nat) (x3 : Int32) (x4 : Int32) {S : jm_S} {H : Heap} {locs : List Loc} {ls : Array Slot}, fX7_countUp_13 n x1 x2 x3 x4 S = some (rv, Sf) → jm_J G S H → va_S (jm_A G) s.heap H locs → jm_L ls 6 [(1, .inl x1), (2, .inr x2), (3, .inl x3), (4, .inl x4)] → W p l e ({ frames := 0, cells := 0, slots := 0, locals := 0 } : Room) s m args below meth c H locs 0 0 (MQ below (jm_Q G (some (.int rv)) Sf) args s 0 0 (jm_A G)) (F0 m 13 ls []) := by
  intro n
  induction n with
  | zero =>
    intro x1 x2 x3 x4 S H locs ls hf
    rw [fX7_countUp_13] at hf
    exact absurd hf (fun h => jm_no_ok h)
  | succ n ih =>
    intro x1 x2 x3 x4 S H locs ls hf hJ hS hl
    rw [fX7_countUp_13] at hf
    refine lv_iload C.1 C.2.1 dX7_countUp_13 (hl.at 3 rfl) ?_
    refine lv_iload_n C.1 C.2.1 dX7_countUp_15 rfl (hl.at 2 rfl) ?_
    refine lv_icmp_ge (tgt := 42) C.1 C.2.1 dX7_countUp_16 (by decide) (fun hq3 => ?_) (fun hq3 => ?_)
    · replace hf := jm_ift hf hq3
      refine lv_iload_n C.1 C.2.1 dX7_countUp_42 rfl (hl.at 0 rfl) ?_
      obtain ⟨rfl, rfl⟩ := jm_ret_ok hf
      exact jw_ri C hJ hS (Nat.le_refl _) (Nat.le_refl _) dX7_countUp_43
    · replace hf := jm_iff hf hq3
      refine jw_aload_n C dX7_countUp_19 rfl (hl.at 1 rfl) ?_
      refine lv_iload C.1 C.2.1 dX7_countUp_20 (hl.at 3 rfl) ?_
      obtain ⟨v4, h4, hf⟩ := jm_rd_ok hf
      refine jw_aaload C hJ h4 (by decide) rfl dX7_countUp_22 ?_
      refine jw_astore C dX7_countUp_23 hl (by decide) rfl (fun ls hl => ?_)
      refine jw_aload C dX7_countUp_25 (hl.at 0 rfl) ?_
      obtain ⟨v5, h5, hf⟩ := jm_rd_ok hf
      refine jw_gI (Cn := RX1) (T := TX1) (N := 7) C hJ h5 rfl inX7_countUp_X1 (by decide) (jm_w C 2 rfl) (fun _ h => h) dX7_countUp_27 ?_
      refine lv_if_eq (tgt := 36) C.1 C.2.1 dX7_countUp_30 (by decide) (fun hq6 => ?_) (fun hq6 => ?_)
      · replace hf := jm_ift hf hq6
        refine jw_iinc (v := x4 + 1) C 4 dX7_countUp_36 hl rfl (by rfl) (by decide) rfl (fun ls hl => ?_)
        refine lv_goto (tgt := 13) C.1 C.2.1 dX7_countUp_39 (by decide) ?_
        exact ih x1 x2 x3 (x4 + 1) hf hJ hS (hl.sub [2, 3, 4, 0] rfl)
      · replace hf := jm_iff hf hq6
        refine jw_iinc (v := x1 + 1) C 1 dX7_countUp_33 hl rfl (by rfl) (by decide) rfl (fun ls hl => ?_)
        refine jw_iinc (v := x4 + 1) C 4 dX7_countUp_36 hl rfl (by rfl) (by decide) rfl (fun ls hl => ?_)
        refine lv_goto (tgt := 13) C.1 C.2.1 dX7_countUp_39 (by decide) ?_
        exact ih (x1 + 1) x2 x3 (x4 + 1) hf hJ hS (hl.sub [1, 3, 4, 0] rfl)
theorem moX7_countUp (h0 : Nat) : jm_Mo (fX7_countUp h0) := by
  unfold fX7_countUp
  exact jm_Mo_rd (fun _ => jm_Mo_rd (fun _ => moX7_countUp_13 _ _ _ _ _))
set_option maxHeartbeats 4000000 in
set_option maxRecDepth 100000 in
theorem kX7_countUp {rv : Int32} {Sf : jm_S} (C : jm_C G cX7_countUp 6 RX7 wsX7_countUp ((some .int)) p s m args meth c) : ∀ (h0 : Nat) {S : jm_S} {H : Heap} {locs : List Loc} {ls : Array Slot}, fX7_countUp h0 S = some (rv, Sf) → jm_J G S H → va_S (jm_A G) s.heap H locs → jm_L ls 6 [(0, .inr (some h0))] → W p l e ({ frames := 0, cells := 0, slots := 0, locals := 0 } : Room) s m args below meth c H locs 0 0 (MQ below (jm_Q G (some (.int rv)) Sf) args s 0 0 (jm_A G)) (F0 m 0 ls []) := by
  intro h0 S H locs ls hf hJ hS hl
  unfold fX7_countUp at hf
  refine lv_iconst (v := 0) C.1 C.2.1 dX7_countUp_0 (by decide) ?_
  refine jw_istore_n C dX7_countUp_1 rfl hl (by decide) rfl (fun ls hl => ?_)
  refine jw_aload_n C dX7_countUp_2 rfl (hl.at 1 rfl) ?_
  obtain ⟨v1, h1, hf⟩ := jm_rd_ok hf
  refine jw_gR (Cn := RX7) (T := TX7) (N := 12) C hJ h1 rfl inX7_countUp_X7 (by decide) (jm_w C 1 rfl) (fun _ h => h) dX7_countUp_3 ?_
  refine jw_astore_n C dX7_countUp_6 rfl hl (by decide) rfl (fun ls hl => ?_)
  refine jw_aload_n C dX7_countUp_7 rfl (hl.at 0 rfl) ?_
  obtain ⟨v2, h2, hf⟩ := jm_rd_ok hf
  refine jw_lq C hJ hS h2 (by decide) rfl dX7_countUp_8 ?_
  refine jw_istore_n C dX7_countUp_9 rfl hl (by decide) rfl (fun ls hl => ?_)
  refine lv_iconst (v := 0) C.1 C.2.1 dX7_countUp_10 (by decide) ?_
  refine jw_istore C dX7_countUp_11 hl (by decide) rfl (fun ls hl => ?_)
  exact kX7_countUp_13 C 4096 0 v1 v2 0 hf hJ hS (hl.sub [3, 2, 1, 0] rfl)
set_option maxHeartbeats 4000000 in
set_option maxRecDepth 100000 in
theorem cX7_countUp_C (l : Launch) (G : jm_G) (h0 : Nat) {S Sf : jm_S} {rv : Int32} (hf : fX7_countUp h0 S = some (rv, Sf)) : Met l yX7_countUp wsX7_countUp ({ frames := 0, cells := 0, slots := 0, locals := 0 } : Room) (jm_Pc G S [.ref h0]) (jm_Q G (some (.int rv)) Sf) 0 0 (jm_A G) := by
  refine Met.ofW (cc := cX7_countUp) (maxL := 6) (ret := (some .int)) (by decide) rfl ?_
  intro p e s m args below meth c s₁ B hml hv
  obtain ⟨rfl, hJ, hX⟩ := hv
  have C : jm_C G cX7_countUp 6 RX7 wsX7_countUp ((some .int)) p s m _ meth c := ⟨B.exec, B.bytes, hml, findClass_of_methodNamed B.named, atoms_spec (ws := wsX7_countUp) B.pre, B.returns, B.notSynchronized, hX⟩
  obtain ⟨ls, he, hl⟩ := jm_entry m [.inr (some h0)] (n := 6) (Nat.le_of_ble_eq_true rfl)
  have he : entryFrame m ([.ref h0] : List Value).toArray 6 = F0 m 0 ls [] := he
  rw [he]
  exact kX7_countUp C h0 hf hJ va_S.rf (hl.sub [0] rfl)
/-! CoordinationService.crash -/
def fX7_crash (h0 : Nat) (x1 : Int32) : jm_P Int32 := jm_rd (jm_o (some h0) 8) fun a1 => jm_bd (fX7_findServer a1 x1) fun v1 => (if v1 = none then jm_ret (-1) else jm_rd (jm_gI v1 2 3) fun v3 => (if v3 = 0 then jm_ret (-2) else jm_rd (jm_z 0) fun _ => jm_wr (jm_p v1 2 3 (.inl 0)) <| jm_rd (jm_z 0) fun _ => jm_wr (jm_p v1 2 4 (.inl 0)) <| jm_rd (jm_gR (some h0) 8 2) fun v7 => jm_rd (jm_o v7 7) fun a8 => jm_bd (fX6_dropAllOf a8 x1) fun _ => jm_rd (jm_gR (some h0) 8 6) fun v9 => (if v1 = v9 then jm_rd (jm_o (some h0) 8) fun a11 => jm_bd (fX7_endLeadership a11) fun _ => jm_rd (jm_o (some h0) 8) fun a12 => jm_bd (fX7_countUp a12) fun v12 => jm_ret v12 else jm_rd (jm_o (some h0) 8) fun a13 => jm_bd (fX7_countActive a13) fun v13 => jm_rd (jm_o (some h0) 8) fun a14 => jm_bd (fX7_quorum a14) fun v14 => (if v14 ≤ v13 then jm_rd (jm_o (some h0) 8) fun a16 => jm_bd (fX7_countUp a16) fun v16 => jm_ret v16 else jm_rd (jm_o (some h0) 8) fun a17 => jm_bd (fX7_endLeadership a17) fun _ => jm_rd (jm_o (some h0) 8) fun a18 => jm_bd (fX7_countUp a18) fun v18 => jm_ret v18))))
theorem inX7_crash_X1 : ∀ w ∈ wsX10, w ∈ wsX7_crash := fun _ h => List.mem_cons_of_mem _ (List.mem_append_left _ (List.mem_append_left _ (List.mem_append_left _ (List.mem_append_left _ (List.mem_append_right _ h)))))
theorem inX7_crash_X7 : ∀ w ∈ wsX70, w ∈ wsX7_crash := fun _ h => List.mem_cons_of_mem _ (List.mem_append_left _ (List.mem_append_left _ (List.mem_append_left _ (List.mem_append_right _ h))))
theorem moX7_crash (h0 : Nat) (x1 : Int32) : jm_Mo (fX7_crash h0 x1) := by
  unfold fX7_crash
  exact jm_Mo_rd (fun _ => jm_Mo_bd (moX7_findServer _ _) (fun _ => jm_Mo_if (jm_Mo_ret _) (jm_Mo_rd (fun _ => jm_Mo_if (jm_Mo_ret _) (jm_Mo_rd (fun _ => jm_Mo_wr jm_p_st (jm_Mo_rd (fun _ => jm_Mo_wr jm_p_st (jm_Mo_rd (fun _ => jm_Mo_rd (fun _ => jm_Mo_bd (moX6_dropAllOf _ _) (fun _ => jm_Mo_rd (fun _ => jm_Mo_if (jm_Mo_rd (fun _ => jm_Mo_bd (moX7_endLeadership _) (fun _ => jm_Mo_rd (fun _ => jm_Mo_bd (moX7_countUp _) (fun _ => jm_Mo_ret _))))) (jm_Mo_rd (fun _ => jm_Mo_bd (moX7_countActive _) (fun _ => jm_Mo_rd (fun _ => jm_Mo_bd (moX7_quorum _) (fun _ => jm_Mo_if (jm_Mo_rd (fun _ => jm_Mo_bd (moX7_countUp _) (fun _ => jm_Mo_ret _))) (jm_Mo_rd (fun _ => jm_Mo_bd (moX7_endLeadership _) (fun _ => jm_Mo_rd (fun _ => jm_Mo_bd (moX7_countUp _) (fun _ => jm_Mo_ret _)))))))))))))))))))))))
set_option maxHeartbeats 4000000 in
set_option maxRecDepth 100000 in
theorem kX7_crash {rv : Int32} {Sf : jm_S} (C : jm_C G cX7_crash 3 RX7 wsX7_crash ((some .int)) p s m args meth c) : ∀ (h0 : Nat) (x1 : Int32) {S : jm_S} {H : Heap} {locs : List Loc} {ls : Array Slot}, fX7_crash h0 x1 S = some (rv, Sf) → jm_J G S H → va_S (jm_A G) s.heap H locs → jm_L ls 3 [(0, .inr (some h0)), (1, .inl x1)] → W p l e ({ frames := 4, cells := 0, slots := 0, locals := 108 } : Room) s m args below meth c H locs 0 0 (MQ below (jm_Q G (some (.int rv)) Sf) args s 0 0 (jm_A G)) (F0 m 0 ls []) := by
  intro h0 x1 S H locs ls hf hJ hS hl
  unfold fX7_crash at hf
  refine jw_aload_n C dX7_crash_0 rfl (hl.at 0 rfl) ?_
  refine lv_iload_n C.1 C.2.1 dX7_crash_1 rfl (hl.at 1 rfl) ?_
  obtain ⟨a1, o1, hf⟩ := jm_rd_ok hf
  obtain ⟨v1, S1, h1, hf⟩ := jm_bd_ok hf
  refine jw_cV (q := (RX7, TX7, 12)) C hJ hS o1 rfl (cX7_findServer_C l G a1 x1 h1) (cwV 1 C.2.2.2.2.1 gX7_crash_X7_findServer rfl rfl rfl (by decide +kernel) ⟨Nat.le_of_ble_eq_true rfl, Nat.le_of_ble_eq_true rfl⟩) rfl hl.1 rfl (Nat.le_of_ble_eq_true rfl) dX7_crash_2 ⟨Nat.le_refl _, Nat.le_refl _⟩ (fun H locs hJ hS => ?_)
  refine jw_astore_n C dX7_crash_5 rfl hl (by decide) rfl (fun ls hl => ?_)
  refine jw_aload_n C dX7_crash_6 rfl (hl.at 0 rfl) ?_
  refine jw_ifnonnull (tgt := 12) C dX7_crash_7 (by decide) (fun hq2 => ?_) (fun hq2 => ?_)
  · replace hf := jm_iff hf hq2
    refine jw_aload_n C dX7_crash_12 rfl (hl.at 0 rfl) ?_
    obtain ⟨v3, h3, hf⟩ := jm_rd_ok hf
    refine jw_gI (Cn := RX1) (T := TX1) (N := 7) C hJ h3 rfl inX7_crash_X1 (by decide) (jm_w C 1 rfl) (fun _ h => h) dX7_crash_13 ?_
    refine lv_if_ne (tgt := 22) C.1 C.2.1 dX7_crash_16 (by decide) (fun hq4 => ?_) (fun hq4 => ?_)
    · replace hf := jm_iff hf hq4
      refine jw_aload_n C dX7_crash_22 rfl (hl.at 0 rfl) ?_
      refine lv_iconst (v := 0) C.1 C.2.1 dX7_crash_23 (by decide) ?_
      obtain ⟨u5, z5, hf⟩ := jm_rd_ok hf
      obtain ⟨S5, h5, hf⟩ := jm_wr_ok hf
      refine jw_p (x := .inl 0) (ty := .boolean) (Cn := RX1) (T := TX1) (N := 7) C hJ hS h5 rfl inX7_crash_X1 tyX1 tyX1_ok nmX1 (by decide) (jm_w C 1 rfl) (fun _ h => h) rfl (by decide +kernel) (jm_nz z5).1 (jm_nz z5).2.1 dX7_crash_24 (fun H locs hJ hS => ?_)
      refine jw_aload_n C dX7_crash_27 rfl (hl.at 0 rfl) ?_
      refine lv_iconst (v := 0) C.1 C.2.1 dX7_crash_28 (by decide) ?_
      obtain ⟨u6, z6, hf⟩ := jm_rd_ok hf
      obtain ⟨S6, h6, hf⟩ := jm_wr_ok hf
      refine jw_p (x := .inl 0) (ty := .boolean) (Cn := RX1) (T := TX1) (N := 7) C hJ hS h6 rfl inX7_crash_X1 tyX1 tyX1_ok nmX1 (by decide) (jm_w C 2 rfl) (fun _ h => h) rfl (by decide +kernel) (jm_nz z6).1 (jm_nz z6).2.1 dX7_crash_29 (fun H locs hJ hS => ?_)
      refine jw_aload_n C dX7_crash_32 rfl (hl.at 1 rfl) ?_
      obtain ⟨v7, h7, hf⟩ := jm_rd_ok hf
      refine jw_gR (Cn := RX7) (T := TX7) (N := 12) C hJ h7 rfl inX7_crash_X7 (by decide) (jm_w C 3 rfl) (fun _ h => h) dX7_crash_33 ?_
      refine lv_iload_n C.1 C.2.1 dX7_crash_36 rfl (hl.at 2 rfl) ?_
      obtain ⟨a8, o8, hf⟩ := jm_rd_ok hf
      obtain ⟨v8, S8, h8, hf⟩ := jm_bd_ok hf
      refine jw_cV (q := (RX6, TX6, 1)) C hJ hS o8 rfl (cX6_dropAllOf_C l G a8 x1 h8) (cwV 1 C.2.2.2.2.1 gX7_crash_X6_dropAllOf rfl rfl rfl (by decide +kernel) ⟨Nat.le_of_ble_eq_true rfl, Nat.le_of_ble_eq_true rfl⟩) rfl hl.1 rfl (Nat.le_of_ble_eq_true rfl) dX7_crash_37 ⟨Nat.le_refl _, Nat.le_refl _⟩ (fun H locs hJ hS => ?_)
      refine jw_aload_n C dX7_crash_40 rfl (hl.at 0 rfl) ?_
      refine jw_aload_n C dX7_crash_41 rfl (hl.at 1 rfl) ?_
      obtain ⟨v9, h9, hf⟩ := jm_rd_ok hf
      refine jw_gR (Cn := RX7) (T := TX7) (N := 12) C hJ h9 rfl inX7_crash_X7 (by decide) (jm_w C 4 rfl) (fun _ h => h) dX7_crash_42 ?_
      refine lv_acmp_eq (rx := v1) (ry := v9) (tgt := 59) C.1 C.2.1 dX7_crash_45 (by decide) (fun hq10 => ?_) (fun hq10 => ?_)
      · replace hf := jm_ift hf hq10
        refine jw_aload_n C dX7_crash_59 rfl (hl.at 1 rfl) ?_
        obtain ⟨a11, o11, hf⟩ := jm_rd_ok hf
        obtain ⟨v11, S11, h11, hf⟩ := jm_bd_ok hf
        refine jw_cV (q := (RX7, TX7, 12)) C hJ hS o11 rfl (cX7_endLeadership_C l G a11 h11) (cwV 0 C.2.2.2.2.1 gX7_crash_X7_endLeadership rfl rfl rfl (by decide +kernel) ⟨Nat.le_of_ble_eq_true rfl, Nat.le_of_ble_eq_true rfl⟩) rfl hl.1 rfl (Nat.le_of_ble_eq_true rfl) dX7_crash_60 ⟨Nat.le_refl _, Nat.le_refl _⟩ (fun H locs hJ hS => ?_)
        refine jw_aload_n C dX7_crash_63 rfl (hl.at 1 rfl) ?_
        obtain ⟨a12, o12, hf⟩ := jm_rd_ok hf
        obtain ⟨v12, S12, h12, hf⟩ := jm_bd_ok hf
        refine jw_cV (q := (RX7, TX7, 12)) C hJ hS o12 rfl (cX7_countUp_C l G a12 h12) (cwV 0 C.2.2.2.2.1 gX7_crash_X7_countUp rfl rfl rfl (by decide +kernel) ⟨Nat.le_of_ble_eq_true rfl, Nat.le_of_ble_eq_true rfl⟩) rfl hl.1 rfl (Nat.le_of_ble_eq_true rfl) dX7_crash_64 ⟨Nat.le_refl _, Nat.le_refl _⟩ (fun H locs hJ hS => ?_)
        obtain ⟨rfl, rfl⟩ := jm_ret_ok hf
        exact jw_ri C hJ hS (Nat.le_refl _) (Nat.le_refl _) dX7_crash_67
      · replace hf := jm_iff hf hq10
        refine jw_aload_n C dX7_crash_48 rfl (hl.at 1 rfl) ?_
        obtain ⟨a13, o13, hf⟩ := jm_rd_ok hf
        obtain ⟨v13, S13, h13, hf⟩ := jm_bd_ok hf
        refine jw_cV (q := (RX7, TX7, 12)) C hJ hS o13 rfl (cX7_countActive_C l G a13 h13) (cwV 0 C.2.2.2.2.1 gX7_crash_X7_countActive rfl rfl rfl (by decide +kernel) ⟨Nat.le_of_ble_eq_true rfl, Nat.le_of_ble_eq_true rfl⟩) rfl hl.1 rfl (Nat.le_of_ble_eq_true rfl) dX7_crash_49 ⟨Nat.le_refl _, Nat.le_refl _⟩ (fun H locs hJ hS => ?_)
        refine jw_aload_n C dX7_crash_52 rfl (hl.at 1 rfl) ?_
        obtain ⟨a14, o14, hf⟩ := jm_rd_ok hf
        obtain ⟨v14, S14, h14, hf⟩ := jm_bd_ok hf
        refine jw_cV (q := (RX7, TX7, 12)) C hJ hS o14 rfl (cX7_quorum_C l G a14 h14) (cwV 0 C.2.2.2.2.1 gX7_crash_X7_quorum rfl rfl rfl (by decide +kernel) ⟨Nat.le_of_ble_eq_true rfl, Nat.le_of_ble_eq_true rfl⟩) rfl hl.1 rfl (Nat.le_of_ble_eq_true rfl) dX7_crash_53 ⟨Nat.le_refl _, Nat.le_refl _⟩ (fun H locs hJ hS => ?_)
        refine lv_icmp_ge (tgt := 63) C.1 C.2.1 dX7_crash_56 (by decide) (fun hq15 => ?_) (fun hq15 => ?_)
        · replace hf := jm_ift hf hq15
          refine jw_aload_n C dX7_crash_63 rfl (hl.at 1 rfl) ?_
          obtain ⟨a16, o16, hf⟩ := jm_rd_ok hf
          obtain ⟨v16, S16, h16, hf⟩ := jm_bd_ok hf
          refine jw_cV (q := (RX7, TX7, 12)) C hJ hS o16 rfl (cX7_countUp_C l G a16 h16) (cwV 0 C.2.2.2.2.1 gX7_crash_X7_countUp rfl rfl rfl (by decide +kernel) ⟨Nat.le_of_ble_eq_true rfl, Nat.le_of_ble_eq_true rfl⟩) rfl hl.1 rfl (Nat.le_of_ble_eq_true rfl) dX7_crash_64 ⟨Nat.le_refl _, Nat.le_refl _⟩ (fun H locs hJ hS => ?_)
          obtain ⟨rfl, rfl⟩ := jm_ret_ok hf
          exact jw_ri C hJ hS (Nat.le_refl _) (Nat.le_refl _) dX7_crash_67
        · replace hf := jm_iff hf hq15
          refine jw_aload_n C dX7_crash_59 rfl (hl.at 1 rfl) ?_
          obtain ⟨a17, o17, hf⟩ := jm_rd_ok hf
          obtain ⟨v17, S17, h17, hf⟩ := jm_bd_ok hf
          refine jw_cV (q := (RX7, TX7, 12)) C hJ hS o17 rfl (cX7_endLeadership_C l G a17 h17) (cwV 0 C.2.2.2.2.1 gX7_crash_X7_endLeadership rfl rfl rfl (by decide +kernel) ⟨Nat.le_of_ble_eq_true rfl, Nat.le_of_ble_eq_true rfl⟩) rfl hl.1 rfl (Nat.le_of_ble_eq_true rfl) dX7_crash_60 ⟨Nat.le_refl _, Nat.le_refl _⟩ (fun H locs hJ hS => ?_)
          refine jw_aload_n C dX7_crash_63 rfl (hl.at 1 rfl) ?_
          obtain ⟨a18, o18, hf⟩ := jm_rd_ok hf
          obtain ⟨v18, S18, h18, hf⟩ := jm_bd_ok hf
          refine jw_cV (q := (RX7, TX7, 12)) C hJ hS o18 rfl (cX7_countUp_C l G a18 h18) (cwV 0 C.2.2.2.2.1 gX7_crash_X7_countUp rfl rfl rfl (by decide +kernel) ⟨Nat.le_of_ble_eq_true rfl, Nat.le_of_ble_eq_true rfl⟩) rfl hl.1 rfl (Nat.le_of_ble_eq_true rfl) dX7_crash_64 ⟨Nat.le_refl _, Nat.le_refl _⟩ (fun H locs hJ hS => ?_)
          obtain ⟨rfl, rfl⟩ := jm_ret_ok hf
          exact jw_ri C hJ hS (Nat.le_refl _) (Nat.le_refl _) dX7_crash_67
    · replace hf := jm_ift hf hq4
      refine lv_bipush (v := (-2)) C.1 C.2.1 dX7_crash_19 (by decide) ?_
      obtain ⟨rfl, rfl⟩ := jm_ret_ok hf
      exact jw_ri C hJ hS (Nat.le_refl _) (Nat.le_refl _) dX7_crash_21
  · replace hf := jm_ift hf hq2
    refine lv_iconst (v := (-1)) C.1 C.2.1 dX7_crash_10 (by decide) ?_
    obtain ⟨rfl, rfl⟩ := jm_ret_ok hf
    exact jw_ri C hJ hS (Nat.le_refl _) (Nat.le_refl _) dX7_crash_11
set_option maxHeartbeats 4000000 in
set_option maxRecDepth 100000 in
theorem cX7_crash_C (l : Launch) (G : jm_G) (h0 : Nat) (x1 : Int32) {S Sf : jm_S} {rv : Int32} (hf : fX7_crash h0 x1 S = some (rv, Sf)) : Met l yX7_crash wsX7_crash ({ frames := 4, cells := 0, slots := 0, locals := 108 } : Room) (jm_Pc G S [.ref h0, .int x1]) (jm_Q G (some (.int rv)) Sf) 0 0 (jm_A G) := by
  refine Met.ofW (cc := cX7_crash) (maxL := 3) (ret := (some .int)) (by decide) rfl ?_
  intro p e s m args below meth c s₁ B hml hv
  obtain ⟨rfl, hJ, hX⟩ := hv
  have C : jm_C G cX7_crash 3 RX7 wsX7_crash ((some .int)) p s m _ meth c := ⟨B.exec, B.bytes, hml, findClass_of_methodNamed B.named, atoms_spec (ws := wsX7_crash) B.pre, B.returns, B.notSynchronized, hX⟩
  obtain ⟨ls, he, hl⟩ := jm_entry m [.inr (some h0), .inl x1] (n := 3) (Nat.le_of_ble_eq_true rfl)
  have he : entryFrame m ([.ref h0, .int x1] : List Value).toArray 3 = F0 m 0 ls [] := he
  rw [he]
  exact kX7_crash C h0 x1 hf hJ va_S.rf (hl.sub [0, 1] rfl)
/-! CoordinationService.restart -/
def fX7_restart (h0 : Nat) (x1 : Int32) : jm_P Int32 := jm_rd (jm_o (some h0) 8) fun a1 => jm_bd (fX7_findServer a1 x1) fun v1 => (if v1 = none then jm_ret (-1) else jm_rd (jm_gI v1 2 3) fun v3 => (if v3 = 0 then jm_rd (jm_z 1) fun _ => jm_wr (jm_p v1 2 3 (.inl 1)) <| jm_rd (jm_o (some h0) 8) fun a6 => jm_bd (fX7_countUp a6) fun v6 => jm_ret v6 else jm_ret (-2)))
theorem inX7_restart_X1 : ∀ w ∈ wsX10, w ∈ wsX7_restart := fun _ h => List.mem_cons_of_mem _ (List.mem_append_left _ (List.mem_append_right _ h))
theorem moX7_restart (h0 : Nat) (x1 : Int32) : jm_Mo (fX7_restart h0 x1) := by
  unfold fX7_restart
  exact jm_Mo_rd (fun _ => jm_Mo_bd (moX7_findServer _ _) (fun _ => jm_Mo_if (jm_Mo_ret _) (jm_Mo_rd (fun _ => jm_Mo_if (jm_Mo_rd (fun _ => jm_Mo_wr jm_p_st (jm_Mo_rd (fun _ => jm_Mo_bd (moX7_countUp _) (fun _ => jm_Mo_ret _))))) (jm_Mo_ret _)))))
set_option maxHeartbeats 4000000 in
set_option maxRecDepth 100000 in
theorem kX7_restart {rv : Int32} {Sf : jm_S} (C : jm_C G cX7_restart 3 RX7 wsX7_restart ((some .int)) p s m args meth c) : ∀ (h0 : Nat) (x1 : Int32) {S : jm_S} {H : Heap} {locs : List Loc} {ls : Array Slot}, fX7_restart h0 x1 S = some (rv, Sf) → jm_J G S H → va_S (jm_A G) s.heap H locs → jm_L ls 3 [(0, .inr (some h0)), (1, .inl x1)] → W p l e ({ frames := 1, cells := 0, slots := 0, locals := 25 } : Room) s m args below meth c H locs 0 0 (MQ below (jm_Q G (some (.int rv)) Sf) args s 0 0 (jm_A G)) (F0 m 0 ls []) := by
  intro h0 x1 S H locs ls hf hJ hS hl
  unfold fX7_restart at hf
  refine jw_aload_n C dX7_restart_0 rfl (hl.at 0 rfl) ?_
  refine lv_iload_n C.1 C.2.1 dX7_restart_1 rfl (hl.at 1 rfl) ?_
  obtain ⟨a1, o1, hf⟩ := jm_rd_ok hf
  obtain ⟨v1, S1, h1, hf⟩ := jm_bd_ok hf
  refine jw_cV (q := (RX7, TX7, 12)) C hJ hS o1 rfl (cX7_findServer_C l G a1 x1 h1) (cwV 1 C.2.2.2.2.1 gX7_restart_X7_findServer rfl rfl rfl (by decide +kernel) ⟨Nat.le_of_ble_eq_true rfl, Nat.le_of_ble_eq_true rfl⟩) rfl hl.1 rfl (Nat.le_of_ble_eq_true rfl) dX7_restart_2 ⟨Nat.le_refl _, Nat.le_refl _⟩ (fun H locs hJ hS => ?_)
  refine jw_astore_n C dX7_restart_5 rfl hl (by decide) rfl (fun ls hl => ?_)
  refine jw_aload_n C dX7_restart_6 rfl (hl.at 0 rfl) ?_
  refine jw_ifnonnull (tgt := 12) C dX7_restart_7 (by decide) (fun hq2 => ?_) (fun hq2 => ?_)
  · replace hf := jm_iff hf hq2
    refine jw_aload_n C dX7_restart_12 rfl (hl.at 0 rfl) ?_
    obtain ⟨v3, h3, hf⟩ := jm_rd_ok hf
    refine jw_gI (Cn := RX1) (T := TX1) (N := 7) C hJ h3 rfl inX7_restart_X1 (by decide) (jm_w C 1 rfl) (fun _ h => h) dX7_restart_13 ?_
    refine lv_if_eq (tgt := 22) C.1 C.2.1 dX7_restart_16 (by decide) (fun hq4 => ?_) (fun hq4 => ?_)
    · replace hf := jm_ift hf hq4
      refine jw_aload_n C dX7_restart_22 rfl (hl.at 0 rfl) ?_
      refine lv_iconst (v := 1) C.1 C.2.1 dX7_restart_23 (by decide) ?_
      obtain ⟨u5, z5, hf⟩ := jm_rd_ok hf
      obtain ⟨S5, h5, hf⟩ := jm_wr_ok hf
      refine jw_p (x := .inl 1) (ty := .boolean) (Cn := RX1) (T := TX1) (N := 7) C hJ hS h5 rfl inX7_restart_X1 tyX1 tyX1_ok nmX1 (by decide) (jm_w C 1 rfl) (fun _ h => h) rfl (by decide +kernel) (jm_nz z5).1 (jm_nz z5).2.1 dX7_restart_24 (fun H locs hJ hS => ?_)
      refine jw_aload_n C dX7_restart_27 rfl (hl.at 1 rfl) ?_
      obtain ⟨a6, o6, hf⟩ := jm_rd_ok hf
      obtain ⟨v6, S6, h6, hf⟩ := jm_bd_ok hf
      refine jw_cV (q := (RX7, TX7, 12)) C hJ hS o6 rfl (cX7_countUp_C l G a6 h6) (cwV 0 C.2.2.2.2.1 gX7_restart_X7_countUp rfl rfl rfl (by decide +kernel) ⟨Nat.le_of_ble_eq_true rfl, Nat.le_of_ble_eq_true rfl⟩) rfl hl.1 rfl (Nat.le_of_ble_eq_true rfl) dX7_restart_28 ⟨Nat.le_refl _, Nat.le_refl _⟩ (fun H locs hJ hS => ?_)
      obtain ⟨rfl, rfl⟩ := jm_ret_ok hf
      exact jw_ri C hJ hS (Nat.le_refl _) (Nat.le_refl _) dX7_restart_31
    · replace hf := jm_iff hf hq4
      refine lv_bipush (v := (-2)) C.1 C.2.1 dX7_restart_19 (by decide) ?_
      obtain ⟨rfl, rfl⟩ := jm_ret_ok hf
      exact jw_ri C hJ hS (Nat.le_refl _) (Nat.le_refl _) dX7_restart_21
  · replace hf := jm_ift hf hq2
    refine lv_iconst (v := (-1)) C.1 C.2.1 dX7_restart_10 (by decide) ?_
    obtain ⟨rfl, rfl⟩ := jm_ret_ok hf
    exact jw_ri C hJ hS (Nat.le_refl _) (Nat.le_refl _) dX7_restart_11
set_option maxHeartbeats 4000000 in
set_option maxRecDepth 100000 in
theorem cX7_restart_C (l : Launch) (G : jm_G) (h0 : Nat) (x1 : Int32) {S Sf : jm_S} {rv : Int32} (hf : fX7_restart h0 x1 S = some (rv, Sf)) : Met l yX7_restart wsX7_restart ({ frames := 1, cells := 0, slots := 0, locals := 25 } : Room) (jm_Pc G S [.ref h0, .int x1]) (jm_Q G (some (.int rv)) Sf) 0 0 (jm_A G) := by
  refine Met.ofW (cc := cX7_restart) (maxL := 3) (ret := (some .int)) (by decide) rfl ?_
  intro p e s m args below meth c s₁ B hml hv
  obtain ⟨rfl, hJ, hX⟩ := hv
  have C : jm_C G cX7_restart 3 RX7 wsX7_restart ((some .int)) p s m _ meth c := ⟨B.exec, B.bytes, hml, findClass_of_methodNamed B.named, atoms_spec (ws := wsX7_restart) B.pre, B.returns, B.notSynchronized, hX⟩
  obtain ⟨ls, he, hl⟩ := jm_entry m [.inr (some h0), .inl x1] (n := 3) (Nat.le_of_ble_eq_true rfl)
  have he : entryFrame m ([.ref h0, .int x1] : List Value).toArray 3 = F0 m 0 ls [] := he
  rw [he]
  exact kX7_restart C h0 x1 hf hJ va_S.rf (hl.sub [0, 1] rfl)
/-! CoordinationService$Server.newestIdentifier -/
def fX1_newestIdentifier (h0 : Nat) : jm_P Int32 := jm_rd (jm_gR (some h0) 2 2) fun v1 => jm_rd (jm_o v1 0) fun a2 => jm_bd (fJx4a65c_isEmpty_aae02 a2) fun v2 => (if v2 = 0 then jm_rd (jm_gR (some h0) 2 2) fun v4 => jm_rd (jm_gR (some h0) 2 2) fun v5 => jm_rd (jm_o v5 0) fun a6 => jm_bd (fJx4a65c_size_8abf5 a6) fun v6 => jm_rd (jm_o v4 0) fun a7 => jm_bd (fJx4a65c_get_915e3 a7 (v6 - 1)) fun v7 => jm_rd (jm_ck v7 4) fun _ => jm_rd (jm_gI v7 4 0) fun v9 => jm_ret v9 else jm_ret 0)
theorem inX1_newestIdentifier_X1 : ∀ w ∈ wsX10, w ∈ wsX1_newestIdentifier := fun _ h => List.mem_cons_of_mem _ (List.mem_append_left _ (List.mem_append_left _ (List.mem_append_right _ h)))
theorem inX1_newestIdentifier_X3 : ∀ w ∈ wsX30, w ∈ wsX1_newestIdentifier := fun _ h => List.mem_cons_of_mem _ (List.mem_append_left _ (List.mem_append_right _ h))
theorem moX1_newestIdentifier (h0 : Nat) : jm_Mo (fX1_newestIdentifier h0) := by
  unfold fX1_newestIdentifier
  exact jm_Mo_rd (fun _ => jm_Mo_rd (fun _ => jm_Mo_bd (moJx4a65c_isEmpty_aae02 _) (fun _ => jm_Mo_if (jm_Mo_rd (fun _ => jm_Mo_rd (fun _ => jm_Mo_rd (fun _ => jm_Mo_bd (moJx4a65c_size_8abf5 _) (fun _ => jm_Mo_rd (fun _ => jm_Mo_bd (moJx4a65c_get_915e3 _ _) (fun _ => jm_Mo_rd (fun _ => jm_Mo_rd (fun _ => jm_Mo_ret _))))))))) (jm_Mo_ret _))))
set_option maxHeartbeats 4000000 in
set_option maxRecDepth 100000 in
theorem kX1_newestIdentifier {rv : Int32} {Sf : jm_S} (C : jm_C G cX1_newestIdentifier 1 RX1 wsX1_newestIdentifier ((some .int)) p s m args meth c) : ∀ (h0 : Nat) {S : jm_S} {H : Heap} {locs : List Loc} {ls : Array Slot}, fX1_newestIdentifier h0 S = some (rv, Sf) → jm_J G S H → va_S (jm_A G) s.heap H locs → jm_L ls 1 [(0, .inr (some h0))] → W p l e ({ frames := 3, cells := 0, slots := 0, locals := 64 } : Room) s m args below meth c H locs 0 0 (MQ below (jm_Q G (some (.int rv)) Sf) args s 0 0 (jm_A G)) (F0 m 0 ls []) := by
  intro h0 S H locs ls hf hJ hS hl
  unfold fX1_newestIdentifier at hf
  refine jw_aload_n C dX1_newestIdentifier_0 rfl (hl.at 0 rfl) ?_
  obtain ⟨v1, h1, hf⟩ := jm_rd_ok hf
  refine jw_gR (Cn := RX1) (T := TX1) (N := 7) C hJ h1 rfl inX1_newestIdentifier_X1 (by decide) (jm_w C 1 rfl) (fun _ h => h) dX1_newestIdentifier_1 ?_
  obtain ⟨a2, o2, hf⟩ := jm_rd_ok hf
  obtain ⟨v2, S2, h2, hf⟩ := jm_bd_ok hf
  refine jw_cV (q := (RJx4a65c, TJx4a65c, 3)) C hJ hS o2 rfl (cJx4a65c_isEmpty_aae02_C l G a2 h2) (cwV 0 C.2.2.2.2.1 gX1_newestIdentifier_Jx4a65c_isEmpty_aae02 rfl rfl rfl (by decide +kernel) ⟨Nat.le_of_ble_eq_true rfl, Nat.le_of_ble_eq_true rfl⟩) rfl hl.1 rfl (Nat.le_of_ble_eq_true rfl) dX1_newestIdentifier_4 ⟨Nat.le_refl _, Nat.le_refl _⟩ (fun H locs hJ hS => ?_)
  refine lv_if_eq (tgt := 14) C.1 C.2.1 dX1_newestIdentifier_7 (by decide) (fun hq3 => ?_) (fun hq3 => ?_)
  · replace hf := jm_ift hf hq3
    refine jw_aload_n C dX1_newestIdentifier_14 rfl (hl.at 0 rfl) ?_
    obtain ⟨v4, h4, hf⟩ := jm_rd_ok hf
    refine jw_gR (Cn := RX1) (T := TX1) (N := 7) C hJ h4 rfl inX1_newestIdentifier_X1 (by decide) (jm_w C 1 rfl) (fun _ h => h) dX1_newestIdentifier_15 ?_
    refine jw_aload_n C dX1_newestIdentifier_18 rfl (hl.at 0 rfl) ?_
    obtain ⟨v5, h5, hf⟩ := jm_rd_ok hf
    refine jw_gR (Cn := RX1) (T := TX1) (N := 7) C hJ h5 rfl inX1_newestIdentifier_X1 (by decide) (jm_w C 1 rfl) (fun _ h => h) dX1_newestIdentifier_19 ?_
    obtain ⟨a6, o6, hf⟩ := jm_rd_ok hf
    obtain ⟨v6, S6, h6, hf⟩ := jm_bd_ok hf
    refine jw_cV (q := (RJx4a65c, TJx4a65c, 3)) C hJ hS o6 rfl (cJx4a65c_size_8abf5_C l G a6 h6) (cwV 0 C.2.2.2.2.1 gX1_newestIdentifier_Jx4a65c_size_8abf5 rfl rfl rfl (by decide +kernel) ⟨Nat.le_of_ble_eq_true rfl, Nat.le_of_ble_eq_true rfl⟩) rfl hl.1 rfl (Nat.le_of_ble_eq_true rfl) dX1_newestIdentifier_22 ⟨Nat.le_refl _, Nat.le_refl _⟩ (fun H locs hJ hS => ?_)
    refine lv_iconst (v := 1) C.1 C.2.1 dX1_newestIdentifier_25 (by decide) ?_
    refine lv_isub C.1 C.2.1 dX1_newestIdentifier_26 ?_
    obtain ⟨a7, o7, hf⟩ := jm_rd_ok hf
    obtain ⟨v7, S7, h7, hf⟩ := jm_bd_ok hf
    refine jw_cV (q := (RJx4a65c, TJx4a65c, 3)) C hJ hS o7 rfl (cJx4a65c_get_915e3_C l G a7 (v6 - 1) h7) (cwV 1 C.2.2.2.2.1 gX1_newestIdentifier_Jx4a65c_get_915e3 rfl rfl rfl (by decide +kernel) ⟨Nat.le_of_ble_eq_true rfl, Nat.le_of_ble_eq_true rfl⟩) rfl hl.1 rfl (Nat.le_of_ble_eq_true rfl) dX1_newestIdentifier_27 ⟨Nat.le_refl _, Nat.le_refl _⟩ (fun H locs hJ hS => ?_)
    obtain ⟨u8, h8, hf⟩ := jm_rd_ok hf
    refine jw_ck (q := (RX3, TX3, 5)) C hJ h8 rfl (jm_w C 2 rfl) dX1_newestIdentifier_30 ?_
    obtain ⟨v9, h9, hf⟩ := jm_rd_ok hf
    refine jw_gI (Cn := RX3) (T := TX3) (N := 5) C hJ h9 rfl inX1_newestIdentifier_X3 (by decide) (jm_w C 3 rfl) (fun _ h => h) dX1_newestIdentifier_33 ?_
    obtain ⟨rfl, rfl⟩ := jm_ret_ok hf
    exact jw_ri C hJ hS (Nat.le_refl _) (Nat.le_refl _) dX1_newestIdentifier_36
  · replace hf := jm_iff hf hq3
    refine lv_iconst (v := 0) C.1 C.2.1 dX1_newestIdentifier_10 (by decide) ?_
    refine lv_goto (tgt := 36) C.1 C.2.1 dX1_newestIdentifier_11 (by decide) ?_
    obtain ⟨rfl, rfl⟩ := jm_ret_ok hf
    exact jw_ri C hJ hS (Nat.le_refl _) (Nat.le_refl _) dX1_newestIdentifier_36
set_option maxHeartbeats 4000000 in
set_option maxRecDepth 100000 in
theorem cX1_newestIdentifier_C (l : Launch) (G : jm_G) (h0 : Nat) {S Sf : jm_S} {rv : Int32} (hf : fX1_newestIdentifier h0 S = some (rv, Sf)) : Met l yX1_newestIdentifier wsX1_newestIdentifier ({ frames := 3, cells := 0, slots := 0, locals := 64 } : Room) (jm_Pc G S [.ref h0]) (jm_Q G (some (.int rv)) Sf) 0 0 (jm_A G) := by
  refine Met.ofW (cc := cX1_newestIdentifier) (maxL := 1) (ret := (some .int)) (by decide) rfl ?_
  intro p e s m args below meth c s₁ B hml hv
  obtain ⟨rfl, hJ, hX⟩ := hv
  have C : jm_C G cX1_newestIdentifier 1 RX1 wsX1_newestIdentifier ((some .int)) p s m _ meth c := ⟨B.exec, B.bytes, hml, findClass_of_methodNamed B.named, atoms_spec (ws := wsX1_newestIdentifier) B.pre, B.returns, B.notSynchronized, hX⟩
  obtain ⟨ls, he, hl⟩ := jm_entry m [.inr (some h0)] (n := 1) (Nat.le_of_ble_eq_true rfl)
  have he : entryFrame m ([.ref h0] : List Value).toArray 1 = F0 m 0 ls [] := he
  rw [he]
  exact kX1_newestIdentifier C h0 hf hJ va_S.rf (hl.sub [0] rfl)
/-! CoordinationService$Server.isAheadOf -/
def fX1_isAheadOf (h0 : Nat) (x1 : Option Nat) : jm_P Int32 := jm_rd (jm_gI (some h0) 2 5) fun v1 => jm_rd (jm_gI x1 2 5) fun v2 => (if v1 = v2 then jm_rd (jm_o (some h0) 2) fun a4 => jm_bd (fX1_newestIdentifier a4) fun v4 => jm_rd (jm_o x1 2) fun a5 => jm_bd (fX1_newestIdentifier a5) fun v5 => (if v4 ≤ v5 then jm_rd (jm_z 0) fun _ => jm_ret 0 else jm_rd (jm_z 1) fun _ => jm_ret 1) else jm_rd (jm_gI (some h0) 2 5) fun v9 => jm_rd (jm_gI x1 2 5) fun v10 => (if v9 ≤ v10 then jm_rd (jm_z 0) fun _ => jm_ret 0 else jm_rd (jm_z 1) fun _ => jm_ret 1))
theorem inX1_isAheadOf_X1 : ∀ w ∈ wsX10, w ∈ wsX1_isAheadOf := fun _ h => List.mem_cons_of_mem _ (List.mem_append_left _ (List.mem_append_left _ (List.mem_append_right _ h)))
theorem moX1_isAheadOf (h0 : Nat) (x1 : Option Nat) : jm_Mo (fX1_isAheadOf h0 x1) := by
  unfold fX1_isAheadOf
  exact jm_Mo_rd (fun _ => jm_Mo_rd (fun _ => jm_Mo_if (jm_Mo_rd (fun _ => jm_Mo_bd (moX1_newestIdentifier _) (fun _ => jm_Mo_rd (fun _ => jm_Mo_bd (moX1_newestIdentifier _) (fun _ => jm_Mo_if (jm_Mo_rd (fun _ => jm_Mo_ret _)) (jm_Mo_rd (fun _ => jm_Mo_ret _))))))) (jm_Mo_rd (fun _ => jm_Mo_rd (fun _ => jm_Mo_if (jm_Mo_rd (fun _ => jm_Mo_ret _)) (jm_Mo_rd (fun _ => jm_Mo_ret _)))))))
set_option maxHeartbeats 4000000 in
set_option maxRecDepth 100000 in
theorem kX1_isAheadOf {rv : Int32} {Sf : jm_S} (C : jm_C G cX1_isAheadOf 2 RX1 wsX1_isAheadOf ((some .boolean)) p s m args meth c) : ∀ (h0 : Nat) (x1 : Option Nat) {S : jm_S} {H : Heap} {locs : List Loc} {ls : Array Slot}, fX1_isAheadOf h0 x1 S = some (rv, Sf) → jm_J G S H → va_S (jm_A G) s.heap H locs → jm_L ls 2 [(0, .inr (some h0)), (1, .inr x1)] → W p l e ({ frames := 4, cells := 0, slots := 0, locals := 84 } : Room) s m args below meth c H locs 0 0 (MQ below (jm_Q G (some (.int rv)) Sf) args s 0 0 (jm_A G)) (F0 m 0 ls []) := by
  intro h0 x1 S H locs ls hf hJ hS hl
  unfold fX1_isAheadOf at hf
  refine jw_aload_n C dX1_isAheadOf_0 rfl (hl.at 0 rfl) ?_
  obtain ⟨v1, h1, hf⟩ := jm_rd_ok hf
  refine jw_gI (Cn := RX1) (T := TX1) (N := 7) C hJ h1 rfl inX1_isAheadOf_X1 (by decide) (jm_w C 1 rfl) (fun _ h => h) dX1_isAheadOf_1 ?_
  refine jw_aload_n C dX1_isAheadOf_4 rfl (hl.at 1 rfl) ?_
  obtain ⟨v2, h2, hf⟩ := jm_rd_ok hf
  refine jw_gI (Cn := RX1) (T := TX1) (N := 7) C hJ h2 rfl inX1_isAheadOf_X1 (by decide) (jm_w C 1 rfl) (fun _ h => h) dX1_isAheadOf_5 ?_
  refine lv_icmp_eq (tgt := 28) C.1 C.2.1 dX1_isAheadOf_8 (by decide) (fun hq3 => ?_) (fun hq3 => ?_)
  · replace hf := jm_ift hf hq3
    refine jw_aload_n C dX1_isAheadOf_28 rfl (hl.at 0 rfl) ?_
    obtain ⟨a4, o4, hf⟩ := jm_rd_ok hf
    obtain ⟨v4, S4, h4, hf⟩ := jm_bd_ok hf
    refine jw_cV (q := (RX1, TX1, 7)) C hJ hS o4 rfl (cX1_newestIdentifier_C l G a4 h4) (cwV 0 C.2.2.2.2.1 gX1_isAheadOf_X1_newestIdentifier rfl rfl rfl (by decide +kernel) ⟨Nat.le_of_ble_eq_true rfl, Nat.le_of_ble_eq_true rfl⟩) rfl hl.1 rfl (Nat.le_of_ble_eq_true rfl) dX1_isAheadOf_29 ⟨Nat.le_refl _, Nat.le_refl _⟩ (fun H locs hJ hS => ?_)
    refine jw_aload_n C dX1_isAheadOf_32 rfl (hl.at 1 rfl) ?_
    obtain ⟨a5, o5, hf⟩ := jm_rd_ok hf
    obtain ⟨v5, S5, h5, hf⟩ := jm_bd_ok hf
    refine jw_cV (q := (RX1, TX1, 7)) C hJ hS o5 rfl (cX1_newestIdentifier_C l G a5 h5) (cwV 0 C.2.2.2.2.1 gX1_isAheadOf_X1_newestIdentifier rfl rfl rfl (by decide +kernel) ⟨Nat.le_of_ble_eq_true rfl, Nat.le_of_ble_eq_true rfl⟩) rfl hl.1 rfl (Nat.le_of_ble_eq_true rfl) dX1_isAheadOf_33 ⟨Nat.le_refl _, Nat.le_refl _⟩ (fun H locs hJ hS => ?_)
    refine lv_icmp_le (tgt := 43) C.1 C.2.1 dX1_isAheadOf_36 (by decide) (fun hq6 => ?_) (fun hq6 => ?_)
    · replace hf := jm_ift hf hq6
      refine lv_iconst (v := 0) C.1 C.2.1 dX1_isAheadOf_43 (by decide) ?_
      obtain ⟨u7, z7, hf⟩ := jm_rd_ok hf
      obtain ⟨rfl, rfl⟩ := jm_ret_ok hf
      exact jw_rz C hJ hS z7 (Nat.le_refl _) (Nat.le_refl _) dX1_isAheadOf_44
    · replace hf := jm_iff hf hq6
      refine lv_iconst (v := 1) C.1 C.2.1 dX1_isAheadOf_39 (by decide) ?_
      refine lv_goto (tgt := 44) C.1 C.2.1 dX1_isAheadOf_40 (by decide) ?_
      obtain ⟨u8, z8, hf⟩ := jm_rd_ok hf
      obtain ⟨rfl, rfl⟩ := jm_ret_ok hf
      exact jw_rz C hJ hS z8 (Nat.le_refl _) (Nat.le_refl _) dX1_isAheadOf_44
  · replace hf := jm_iff hf hq3
    refine jw_aload_n C dX1_isAheadOf_11 rfl (hl.at 0 rfl) ?_
    obtain ⟨v9, h9, hf⟩ := jm_rd_ok hf
    refine jw_gI (Cn := RX1) (T := TX1) (N := 7) C hJ h9 rfl inX1_isAheadOf_X1 (by decide) (jm_w C 1 rfl) (fun _ h => h) dX1_isAheadOf_12 ?_
    refine jw_aload_n C dX1_isAheadOf_15 rfl (hl.at 1 rfl) ?_
    obtain ⟨v10, h10, hf⟩ := jm_rd_ok hf
    refine jw_gI (Cn := RX1) (T := TX1) (N := 7) C hJ h10 rfl inX1_isAheadOf_X1 (by decide) (jm_w C 1 rfl) (fun _ h => h) dX1_isAheadOf_16 ?_
    refine lv_icmp_le (tgt := 26) C.1 C.2.1 dX1_isAheadOf_19 (by decide) (fun hq11 => ?_) (fun hq11 => ?_)
    · replace hf := jm_ift hf hq11
      refine lv_iconst (v := 0) C.1 C.2.1 dX1_isAheadOf_26 (by decide) ?_
      obtain ⟨u12, z12, hf⟩ := jm_rd_ok hf
      obtain ⟨rfl, rfl⟩ := jm_ret_ok hf
      exact jw_rz C hJ hS z12 (Nat.le_refl _) (Nat.le_refl _) dX1_isAheadOf_27
    · replace hf := jm_iff hf hq11
      refine lv_iconst (v := 1) C.1 C.2.1 dX1_isAheadOf_22 (by decide) ?_
      refine lv_goto (tgt := 27) C.1 C.2.1 dX1_isAheadOf_23 (by decide) ?_
      obtain ⟨u13, z13, hf⟩ := jm_rd_ok hf
      obtain ⟨rfl, rfl⟩ := jm_ret_ok hf
      exact jw_rz C hJ hS z13 (Nat.le_refl _) (Nat.le_refl _) dX1_isAheadOf_27
set_option maxHeartbeats 4000000 in
set_option maxRecDepth 100000 in
theorem cX1_isAheadOf_C (l : Launch) (G : jm_G) (h0 : Nat) (x1 : Option Nat) {S Sf : jm_S} {rv : Int32} (hf : fX1_isAheadOf h0 x1 S = some (rv, Sf)) : Met l yX1_isAheadOf wsX1_isAheadOf ({ frames := 4, cells := 0, slots := 0, locals := 84 } : Room) (jm_Pc G S [.ref h0, va_rf x1]) (jm_Q G (some (.int rv)) Sf) 0 0 (jm_A G) := by
  refine Met.ofW (cc := cX1_isAheadOf) (maxL := 2) (ret := (some .boolean)) (by decide) rfl ?_
  intro p e s m args below meth c s₁ B hml hv
  obtain ⟨rfl, hJ, hX⟩ := hv
  have C : jm_C G cX1_isAheadOf 2 RX1 wsX1_isAheadOf ((some .boolean)) p s m _ meth c := ⟨B.exec, B.bytes, hml, findClass_of_methodNamed B.named, atoms_spec (ws := wsX1_isAheadOf) B.pre, B.returns, B.notSynchronized, hX⟩
  obtain ⟨ls, he, hl⟩ := jm_entry m [.inr (some h0), .inr x1] (n := 2) (Nat.le_of_ble_eq_true rfl)
  have he : entryFrame m ([.ref h0, va_rf x1] : List Value).toArray 2 = F0 m 0 ls [] := he
  rw [he]
  exact kX1_isAheadOf C h0 x1 hf hJ va_S.rf (hl.sub [0, 1] rfl)
/-! CoordinationService.bestCandidate -/
def fX7_bestCandidate_13 : Nat → Option Nat → Option Nat → Int32 → Int32 → jm_P (Option Nat)
  | 0, _, _, _, _ => jm_no
  | n + 1, x1, x2, x3, x4 => (if x3 ≤ x4 then jm_ret x1 else jm_rd (jm_gq x2 3 x4) fun v4 => jm_rd (jm_gI v4 2 3) fun v5 => (if v5 = 0 then fX7_bestCandidate_13 n x1 x2 x3 (x4 + 1) else (if x1 = none then fX7_bestCandidate_13 n v4 x2 x3 (x4 + 1) else jm_rd (jm_o x1 2) fun a8 => jm_bd (fX1_isAheadOf a8 v4) fun v8 => (if v8 = 0 then fX7_bestCandidate_13 n v4 x2 x3 (x4 + 1) else fX7_bestCandidate_13 n x1 x2 x3 (x4 + 1)))))
def fX7_bestCandidate (h0 : Nat) : jm_P (Option Nat) := jm_rd (jm_gR (some h0) 8 0) fun v1 => jm_rd (jm_lq v1 3) fun v2 => fX7_bestCandidate_13 4096 none v1 v2 0
theorem inX7_bestCandidate_X7 : ∀ w ∈ wsX70, w ∈ wsX7_bestCandidate := fun _ h => List.mem_cons_of_mem _ (List.mem_append_left _ (List.mem_append_left _ (List.mem_append_left _ (List.mem_append_right _ h))))
theorem inX7_bestCandidate_X1 : ∀ w ∈ wsX10, w ∈ wsX7_bestCandidate := fun _ h => List.mem_cons_of_mem _ (List.mem_append_left _ (List.mem_append_left _ (List.mem_append_right _ h)))
theorem moX7_bestCandidate_13 : ∀ (n : Nat) (x1 : Option Nat) (x2 : Option Nat) (x3 : Int32) (x4 : Int32), jm_Mo (fX7_bestCandidate_13 n x1 x2 x3 x4) := by
  intro n
  induction n with
  | zero =>
    intro x1 x2 x3 x4
    rw [fX7_bestCandidate_13]
    exact jm_Mo_no
  | succ n ih =>
    intro x1 x2 x3 x4
    rw [fX7_bestCandidate_13]
    exact jm_Mo_if (jm_Mo_ret _) (jm_Mo_rd (fun _ => jm_Mo_rd (fun _ => jm_Mo_if (ih _ _ _ _) (jm_Mo_if (ih _ _ _ _) (jm_Mo_rd (fun _ => jm_Mo_bd (moX1_isAheadOf _ _) (fun _ => jm_Mo_if (ih _ _ _ _) (ih _ _ _ _))))))))
set_option maxHeartbeats 4000000 in
set_option maxRecDepth 100000 in
theorem kX7_bestCandidate_13 {rv : (Option Nat)} {Sf : jm_S} (C : jm_C G cX7_bestCandidate 6 RX7 wsX7_bestCandidate ((some (.object "CoordinationService$Server"))) p s m args meth c) : ∀ (n : Nat) (x1 : Option Nat) (x2 : Option Nat) (x3 : Int32) (x4 : Int32) {S : jm_S} {H : Heap} {locs : List Loc} {ls : Array Slot}, fX7_bestCandidate_13 n x1 x2 x3 x4 S = some (rv, Sf) → jm_J G S H → va_S (jm_A G) s.heap H locs → jm_L ls 6 [(1, .inr x1), (2, .inr x2), (3, .inl x3), (4, .inl x4)] → W p l e ({ frames := 5, cells := 0, slots := 0, locals := 105 } : Room) s m args below meth c H locs 0 0 (MQ below (jm_Q G (some (va_rf rv)) Sf) args s 0 0 (jm_A G)) (F0 m 13 ls []) := by
  intro n
  induction n with
  | zero =>
    intro x1 x2 x3 x4 S H locs ls hf
    rw [fX7_bestCandidate_13] at hf
    exact absurd hf (fun h => jm_no_ok h)
  | succ n ih =>
    intro x1 x2 x3 x4 S H locs ls hf hJ hS hl
    rw [fX7_bestCandidate_13] at hf
    refine lv_iload C.1 C.2.1 dX7_bestCandidate_13 (hl.at 3 rfl) ?_
    refine lv_iload_n C.1 C.2.1 dX7_bestCandidate_15 rfl (hl.at 2 rfl) ?_
    refine lv_icmp_ge (tgt := 55) C.1 C.2.1 dX7_bestCandidate_16 (by decide) (fun hq3 => ?_) (fun hq3 => ?_)
    · replace hf := jm_ift hf hq3
      refine jw_aload_n C dX7_bestCandidate_55 rfl (hl.at 0 rfl) ?_
      obtain ⟨rfl, rfl⟩ := jm_ret_ok hf
      exact jw_ra C (Or.inl ⟨_, rfl⟩) hJ hS (Nat.le_refl _) (Nat.le_refl _) dX7_bestCandidate_56
    · replace hf := jm_iff hf hq3
      refine jw_aload_n C dX7_bestCandidate_19 rfl (hl.at 1 rfl) ?_
      refine lv_iload C.1 C.2.1 dX7_bestCandidate_20 (hl.at 3 rfl) ?_
      obtain ⟨v4, h4, hf⟩ := jm_rd_ok hf
      refine jw_aaload C hJ h4 (by decide) rfl dX7_bestCandidate_22 ?_
      refine jw_astore C dX7_bestCandidate_23 hl (by decide) rfl (fun ls hl => ?_)
      refine jw_aload C dX7_bestCandidate_25 (hl.at 0 rfl) ?_
      obtain ⟨v5, h5, hf⟩ := jm_rd_ok hf
      refine jw_gI (Cn := RX1) (T := TX1) (N := 7) C hJ h5 rfl inX7_bestCandidate_X1 (by decide) (jm_w C 2 rfl) (fun _ h => h) dX7_bestCandidate_27 ?_
      refine lv_if_eq (tgt := 49) C.1 C.2.1 dX7_bestCandidate_30 (by decide) (fun hq6 => ?_) (fun hq6 => ?_)
      · replace hf := jm_ift hf hq6
        refine jw_iinc (v := x4 + 1) C 4 dX7_bestCandidate_49 hl rfl (by rfl) (by decide) rfl (fun ls hl => ?_)
        refine lv_goto (tgt := 13) C.1 C.2.1 dX7_bestCandidate_52 (by decide) ?_
        exact ih x1 x2 x3 (x4 + 1) hf hJ hS (hl.sub [2, 3, 4, 0] rfl)
      · replace hf := jm_iff hf hq6
        refine jw_aload_n C dX7_bestCandidate_33 rfl (hl.at 1 rfl) ?_
        refine jw_ifnull (tgt := 46) C dX7_bestCandidate_34 (by decide) (fun hq7 => ?_) (fun hq7 => ?_)
        · replace hf := jm_ift hf hq7
          refine jw_aload C dX7_bestCandidate_46 (hl.at 0 rfl) ?_
          refine jw_astore_n C dX7_bestCandidate_48 rfl hl (by decide) rfl (fun ls hl => ?_)
          refine jw_iinc (v := x4 + 1) C 4 dX7_bestCandidate_49 hl rfl (by rfl) (by decide) rfl (fun ls hl => ?_)
          refine lv_goto (tgt := 13) C.1 C.2.1 dX7_bestCandidate_52 (by decide) ?_
          exact ih v4 x2 x3 (x4 + 1) hf hJ hS (hl.sub [1, 3, 4, 0] rfl)
        · replace hf := jm_iff hf hq7
          refine jw_aload_n C dX7_bestCandidate_37 rfl (hl.at 1 rfl) ?_
          refine jw_aload C dX7_bestCandidate_38 (hl.at 0 rfl) ?_
          obtain ⟨a8, o8, hf⟩ := jm_rd_ok hf
          obtain ⟨v8, S8, h8, hf⟩ := jm_bd_ok hf
          refine jw_cV (q := (RX1, TX1, 7)) C hJ hS o8 rfl (cX1_isAheadOf_C l G a8 v4 h8) (cwV 1 C.2.2.2.2.1 gX7_bestCandidate_X1_isAheadOf rfl rfl rfl (by decide +kernel) ⟨Nat.le_of_ble_eq_true rfl, Nat.le_of_ble_eq_true rfl⟩) rfl hl.1 rfl (Nat.le_of_ble_eq_true rfl) dX7_bestCandidate_40 ⟨Nat.le_refl _, Nat.le_refl _⟩ (fun H locs hJ hS => ?_)
          refine lv_if_ne (tgt := 49) C.1 C.2.1 dX7_bestCandidate_43 (by decide) (fun hq9 => ?_) (fun hq9 => ?_)
          · replace hf := jm_iff hf hq9
            refine jw_iinc (v := x4 + 1) C 4 dX7_bestCandidate_49 hl rfl (by rfl) (by decide) rfl (fun ls hl => ?_)
            refine lv_goto (tgt := 13) C.1 C.2.1 dX7_bestCandidate_52 (by decide) ?_
            exact ih x1 x2 x3 (x4 + 1) hf hJ hS (hl.sub [2, 3, 4, 0] rfl)
          · replace hf := jm_ift hf hq9
            refine jw_aload C dX7_bestCandidate_46 (hl.at 0 rfl) ?_
            refine jw_astore_n C dX7_bestCandidate_48 rfl hl (by decide) rfl (fun ls hl => ?_)
            refine jw_iinc (v := x4 + 1) C 4 dX7_bestCandidate_49 hl rfl (by rfl) (by decide) rfl (fun ls hl => ?_)
            refine lv_goto (tgt := 13) C.1 C.2.1 dX7_bestCandidate_52 (by decide) ?_
            exact ih v4 x2 x3 (x4 + 1) hf hJ hS (hl.sub [1, 3, 4, 0] rfl)
theorem moX7_bestCandidate (h0 : Nat) : jm_Mo (fX7_bestCandidate h0) := by
  unfold fX7_bestCandidate
  exact jm_Mo_rd (fun _ => jm_Mo_rd (fun _ => moX7_bestCandidate_13 _ _ _ _ _))
set_option maxHeartbeats 4000000 in
set_option maxRecDepth 100000 in
theorem kX7_bestCandidate {rv : (Option Nat)} {Sf : jm_S} (C : jm_C G cX7_bestCandidate 6 RX7 wsX7_bestCandidate ((some (.object "CoordinationService$Server"))) p s m args meth c) : ∀ (h0 : Nat) {S : jm_S} {H : Heap} {locs : List Loc} {ls : Array Slot}, fX7_bestCandidate h0 S = some (rv, Sf) → jm_J G S H → va_S (jm_A G) s.heap H locs → jm_L ls 6 [(0, .inr (some h0))] → W p l e ({ frames := 5, cells := 0, slots := 0, locals := 105 } : Room) s m args below meth c H locs 0 0 (MQ below (jm_Q G (some (va_rf rv)) Sf) args s 0 0 (jm_A G)) (F0 m 0 ls []) := by
  intro h0 S H locs ls hf hJ hS hl
  unfold fX7_bestCandidate at hf
  refine lv_null C.1 C.2.1 dX7_bestCandidate_0 ?_
  show W _ _ _ _ _ _ _ _ _ _ _ _ _ _ _ (F0 _ _ _ (va_rf none :: _))
  refine jw_astore_n C dX7_bestCandidate_1 rfl hl (by decide) rfl (fun ls hl => ?_)
  refine jw_aload_n C dX7_bestCandidate_2 rfl (hl.at 1 rfl) ?_
  obtain ⟨v1, h1, hf⟩ := jm_rd_ok hf
  refine jw_gR (Cn := RX7) (T := TX7) (N := 12) C hJ h1 rfl inX7_bestCandidate_X7 (by decide) (jm_w C 1 rfl) (fun _ h => h) dX7_bestCandidate_3 ?_
  refine jw_astore_n C dX7_bestCandidate_6 rfl hl (by decide) rfl (fun ls hl => ?_)
  refine jw_aload_n C dX7_bestCandidate_7 rfl (hl.at 0 rfl) ?_
  obtain ⟨v2, h2, hf⟩ := jm_rd_ok hf
  refine jw_lq C hJ hS h2 (by decide) rfl dX7_bestCandidate_8 ?_
  refine jw_istore_n C dX7_bestCandidate_9 rfl hl (by decide) rfl (fun ls hl => ?_)
  refine lv_iconst (v := 0) C.1 C.2.1 dX7_bestCandidate_10 (by decide) ?_
  refine jw_istore C dX7_bestCandidate_11 hl (by decide) rfl (fun ls hl => ?_)
  exact kX7_bestCandidate_13 C 4096 none v1 v2 0 hf hJ hS (hl.sub [3, 2, 1, 0] rfl)
set_option maxHeartbeats 4000000 in
set_option maxRecDepth 100000 in
theorem cX7_bestCandidate_C (l : Launch) (G : jm_G) (h0 : Nat) {S Sf : jm_S} {rv : (Option Nat)} (hf : fX7_bestCandidate h0 S = some (rv, Sf)) : Met l yX7_bestCandidate wsX7_bestCandidate ({ frames := 5, cells := 0, slots := 0, locals := 105 } : Room) (jm_Pc G S [.ref h0]) (jm_Q G (some (va_rf rv)) Sf) 0 0 (jm_A G) := by
  refine Met.ofW (cc := cX7_bestCandidate) (maxL := 6) (ret := (some (.object "CoordinationService$Server"))) (by decide) rfl ?_
  intro p e s m args below meth c s₁ B hml hv
  obtain ⟨rfl, hJ, hX⟩ := hv
  have C : jm_C G cX7_bestCandidate 6 RX7 wsX7_bestCandidate ((some (.object "CoordinationService$Server"))) p s m _ meth c := ⟨B.exec, B.bytes, hml, findClass_of_methodNamed B.named, atoms_spec (ws := wsX7_bestCandidate) B.pre, B.returns, B.notSynchronized, hX⟩
  obtain ⟨ls, he, hl⟩ := jm_entry m [.inr (some h0)] (n := 6) (Nat.le_of_ble_eq_true rfl)
  have he : entryFrame m ([.ref h0] : List Value).toArray 6 = F0 m 0 ls [] := he
  rw [he]
  exact kX7_bestCandidate C h0 hf hJ va_S.rf (hl.sub [0] rfl)
/-! CoordinationService$Server.commonLength -/
def fX1_commonLength_20 : Nat → Nat → Option Nat → Int32 → Int32 → jm_P Int32
  | 0, _, _, _, _ => jm_no
  | n + 1, h0, x1, x2, x3 => (if x2 ≤ x3 then jm_ret x2 else jm_rd (jm_gR (some h0) 2 2) fun v7 => jm_rd (jm_o v7 0) fun a8 => jm_bd (fJx4a65c_get_915e3 a8 x3) fun v8 => jm_rd (jm_ck v8 4) fun _ => jm_rd (jm_gI v8 4 0) fun v10 => jm_rd (jm_gR x1 2 2) fun v11 => jm_rd (jm_o v11 0) fun a12 => jm_bd (fJx4a65c_get_915e3 a12 x3) fun v12 => jm_rd (jm_ck v12 4) fun _ => jm_rd (jm_gI v12 4 0) fun v14 => (if v10 = v14 then fX1_commonLength_20 n h0 x1 x2 (x3 + 1) else jm_ret x3))
def fX1_commonLength (h0 : Nat) (x1 : Option Nat) : jm_P Int32 := jm_rd (jm_gR (some h0) 2 2) fun v1 => jm_rd (jm_o v1 0) fun a2 => jm_bd (fJx4a65c_size_8abf5 a2) fun v2 => jm_rd (jm_gR x1 2 2) fun v3 => jm_rd (jm_o v3 0) fun a4 => jm_bd (fJx4a65c_size_8abf5 a4) fun v4 => fX1_commonLength_20 4096 h0 x1 (if v4 < v2 then v4 else v2) 0
theorem inX1_commonLength_X1 : ∀ w ∈ wsX10, w ∈ wsX1_commonLength := fun _ h => List.mem_cons_of_mem _ (List.mem_append_left _ (List.mem_append_left _ (List.mem_append_right _ h)))
theorem inX1_commonLength_X3 : ∀ w ∈ wsX30, w ∈ wsX1_commonLength := fun _ h => List.mem_cons_of_mem _ (List.mem_append_left _ (List.mem_append_right _ h))
theorem moX1_commonLength_20 : ∀ (n : Nat) (h0 : Nat) (x1 : Option Nat) (x2 : Int32) (x3 : Int32), jm_Mo (fX1_commonLength_20 n h0 x1 x2 x3) := by
  intro n
  induction n with
  | zero =>
    intro h0 x1 x2 x3
    rw [fX1_commonLength_20]
    exact jm_Mo_no
  | succ n ih =>
    intro h0 x1 x2 x3
    rw [fX1_commonLength_20]
    exact jm_Mo_if (jm_Mo_ret _) (jm_Mo_rd (fun _ => jm_Mo_rd (fun _ => jm_Mo_bd (moJx4a65c_get_915e3 _ _) (fun _ => jm_Mo_rd (fun _ => jm_Mo_rd (fun _ => jm_Mo_rd (fun _ => jm_Mo_rd (fun _ => jm_Mo_bd (moJx4a65c_get_915e3 _ _) (fun _ => jm_Mo_rd (fun _ => jm_Mo_rd (fun _ => jm_Mo_if (ih _ _ _ _) (jm_Mo_ret _))))))))))))
set_option maxHeartbeats 4000000 in
set_option maxRecDepth 100000 in
theorem kX1_commonLength_20 {rv : Int32} {Sf : jm_S} (C : jm_C G cX1_commonLength 4 RX1 wsX1_commonLength ((some .int)) p s m args meth c) : ∀ (n : Nat) (h0 : Nat) (x1 : Option Nat) (x2 : Int32) (x3 : Int32) {S : jm_S} {H : Heap} {locs : List Loc} {ls : Array Slot}, fX1_commonLength_20 n h0 x1 x2 x3 S = some (rv, Sf) → jm_J G S H → va_S (jm_A G) s.heap H locs → jm_L ls 4 [(0, .inr (some h0)), (1, .inr x1), (2, .inl x2), (3, .inl x3)] → W p l e ({ frames := 3, cells := 0, slots := 0, locals := 64 } : Room) s m args below meth c H locs 0 0 (MQ below (jm_Q G (some (.int rv)) Sf) args s 0 0 (jm_A G)) (F0 m 20 ls []) := by
  intro n
  induction n with
  | zero =>
    intro h0 x1 x2 x3 S H locs ls hf
    rw [fX1_commonLength_20] at hf
    exact absurd hf (fun h => jm_no_ok h)
  | succ n ih =>
    intro h0 x1 x2 x3 S H locs ls hf hJ hS hl
    rw [fX1_commonLength_20] at hf
    refine lv_iload_n C.1 C.2.1 dX1_commonLength_20 rfl (hl.at 3 rfl) ?_
    refine lv_iload_n C.1 C.2.1 dX1_commonLength_21 rfl (hl.at 2 rfl) ?_
    refine lv_icmp_ge (tgt := 64) C.1 C.2.1 dX1_commonLength_22 (by decide) (fun hq6 => ?_) (fun hq6 => ?_)
    · replace hf := jm_ift hf hq6
      refine lv_iload_n C.1 C.2.1 dX1_commonLength_64 rfl (hl.at 2 rfl) ?_
      obtain ⟨rfl, rfl⟩ := jm_ret_ok hf
      exact jw_ri C hJ hS (Nat.le_refl _) (Nat.le_refl _) dX1_commonLength_65
    · replace hf := jm_iff hf hq6
      refine jw_aload_n C dX1_commonLength_25 rfl (hl.at 0 rfl) ?_
      obtain ⟨v7, h7, hf⟩ := jm_rd_ok hf
      refine jw_gR (Cn := RX1) (T := TX1) (N := 7) C hJ h7 rfl inX1_commonLength_X1 (by decide) (jm_w C 1 rfl) (fun _ h => h) dX1_commonLength_26 ?_
      refine lv_iload_n C.1 C.2.1 dX1_commonLength_29 rfl (hl.at 3 rfl) ?_
      obtain ⟨a8, o8, hf⟩ := jm_rd_ok hf
      obtain ⟨v8, S8, h8, hf⟩ := jm_bd_ok hf
      refine jw_cV (q := (RJx4a65c, TJx4a65c, 3)) C hJ hS o8 rfl (cJx4a65c_get_915e3_C l G a8 x3 h8) (cwV 1 C.2.2.2.2.1 gX1_commonLength_Jx4a65c_get_915e3 rfl rfl rfl (by decide +kernel) ⟨Nat.le_of_ble_eq_true rfl, Nat.le_of_ble_eq_true rfl⟩) rfl hl.1 rfl (Nat.le_of_ble_eq_true rfl) dX1_commonLength_30 ⟨Nat.le_refl _, Nat.le_refl _⟩ (fun H locs hJ hS => ?_)
      obtain ⟨u9, h9, hf⟩ := jm_rd_ok hf
      refine jw_ck (q := (RX3, TX3, 5)) C hJ h9 rfl (jm_w C 6 rfl) dX1_commonLength_33 ?_
      obtain ⟨v10, h10, hf⟩ := jm_rd_ok hf
      refine jw_gI (Cn := RX3) (T := TX3) (N := 5) C hJ h10 rfl inX1_commonLength_X3 (by decide) (jm_w C 7 rfl) (fun _ h => h) dX1_commonLength_36 ?_
      refine jw_aload_n C dX1_commonLength_39 rfl (hl.at 1 rfl) ?_
      obtain ⟨v11, h11, hf⟩ := jm_rd_ok hf
      refine jw_gR (Cn := RX1) (T := TX1) (N := 7) C hJ h11 rfl inX1_commonLength_X1 (by decide) (jm_w C 1 rfl) (fun _ h => h) dX1_commonLength_40 ?_
      refine lv_iload_n C.1 C.2.1 dX1_commonLength_43 rfl (hl.at 3 rfl) ?_
      obtain ⟨a12, o12, hf⟩ := jm_rd_ok hf
      obtain ⟨v12, S12, h12, hf⟩ := jm_bd_ok hf
      refine jw_cV (q := (RJx4a65c, TJx4a65c, 3)) C hJ hS o12 rfl (cJx4a65c_get_915e3_C l G a12 x3 h12) (cwV 1 C.2.2.2.2.1 gX1_commonLength_Jx4a65c_get_915e3 rfl rfl rfl (by decide +kernel) ⟨Nat.le_of_ble_eq_true rfl, Nat.le_of_ble_eq_true rfl⟩) rfl hl.1 rfl (Nat.le_of_ble_eq_true rfl) dX1_commonLength_44 ⟨Nat.le_refl _, Nat.le_refl _⟩ (fun H locs hJ hS => ?_)
      obtain ⟨u13, h13, hf⟩ := jm_rd_ok hf
      refine jw_ck (q := (RX3, TX3, 5)) C hJ h13 rfl (jm_w C 6 rfl) dX1_commonLength_47 ?_
      obtain ⟨v14, h14, hf⟩ := jm_rd_ok hf
      refine jw_gI (Cn := RX3) (T := TX3) (N := 5) C hJ h14 rfl inX1_commonLength_X3 (by decide) (jm_w C 7 rfl) (fun _ h => h) dX1_commonLength_50 ?_
      refine lv_icmp_eq (tgt := 58) C.1 C.2.1 dX1_commonLength_53 (by decide) (fun hq15 => ?_) (fun hq15 => ?_)
      · replace hf := jm_ift hf hq15
        refine jw_iinc (v := x3 + 1) C 3 dX1_commonLength_58 hl rfl (by rfl) (by decide) rfl (fun ls hl => ?_)
        refine lv_goto (tgt := 20) C.1 C.2.1 dX1_commonLength_61 (by decide) ?_
        exact ih h0 x1 x2 (x3 + 1) hf hJ hS (hl.sub [1, 2, 3, 0] rfl)
      · replace hf := jm_iff hf hq15
        refine lv_iload_n C.1 C.2.1 dX1_commonLength_56 rfl (hl.at 3 rfl) ?_
        obtain ⟨rfl, rfl⟩ := jm_ret_ok hf
        exact jw_ri C hJ hS (Nat.le_refl _) (Nat.le_refl _) dX1_commonLength_57
theorem moX1_commonLength (h0 : Nat) (x1 : Option Nat) : jm_Mo (fX1_commonLength h0 x1) := by
  unfold fX1_commonLength
  exact jm_Mo_rd (fun _ => jm_Mo_rd (fun _ => jm_Mo_bd (moJx4a65c_size_8abf5 _) (fun _ => jm_Mo_rd (fun _ => jm_Mo_rd (fun _ => jm_Mo_bd (moJx4a65c_size_8abf5 _) (fun _ => moX1_commonLength_20 _ _ _ _ _))))))
set_option maxHeartbeats 4000000 in
set_option maxRecDepth 100000 in
theorem kX1_commonLength {rv : Int32} {Sf : jm_S} (C : jm_C G cX1_commonLength 4 RX1 wsX1_commonLength ((some .int)) p s m args meth c) : ∀ (h0 : Nat) (x1 : Option Nat) {S : jm_S} {H : Heap} {locs : List Loc} {ls : Array Slot}, fX1_commonLength h0 x1 S = some (rv, Sf) → jm_J G S H → va_S (jm_A G) s.heap H locs → jm_L ls 4 [(0, .inr (some h0)), (1, .inr x1)] → W p l e ({ frames := 3, cells := 0, slots := 0, locals := 64 } : Room) s m args below meth c H locs 0 0 (MQ below (jm_Q G (some (.int rv)) Sf) args s 0 0 (jm_A G)) (F0 m 0 ls []) := by
  intro h0 x1 S H locs ls hf hJ hS hl
  unfold fX1_commonLength at hf
  refine jw_aload_n C dX1_commonLength_0 rfl (hl.at 0 rfl) ?_
  obtain ⟨v1, h1, hf⟩ := jm_rd_ok hf
  refine jw_gR (Cn := RX1) (T := TX1) (N := 7) C hJ h1 rfl inX1_commonLength_X1 (by decide) (jm_w C 1 rfl) (fun _ h => h) dX1_commonLength_1 ?_
  obtain ⟨a2, o2, hf⟩ := jm_rd_ok hf
  obtain ⟨v2, S2, h2, hf⟩ := jm_bd_ok hf
  refine jw_cV (q := (RJx4a65c, TJx4a65c, 3)) C hJ hS o2 rfl (cJx4a65c_size_8abf5_C l G a2 h2) (cwV 0 C.2.2.2.2.1 gX1_commonLength_Jx4a65c_size_8abf5 rfl rfl rfl (by decide +kernel) ⟨Nat.le_of_ble_eq_true rfl, Nat.le_of_ble_eq_true rfl⟩) rfl hl.1 rfl (Nat.le_of_ble_eq_true rfl) dX1_commonLength_4 ⟨Nat.le_refl _, Nat.le_refl _⟩ (fun H locs hJ hS => ?_)
  refine jw_aload_n C dX1_commonLength_7 rfl (hl.at 1 rfl) ?_
  obtain ⟨v3, h3, hf⟩ := jm_rd_ok hf
  refine jw_gR (Cn := RX1) (T := TX1) (N := 7) C hJ h3 rfl inX1_commonLength_X1 (by decide) (jm_w C 1 rfl) (fun _ h => h) dX1_commonLength_8 ?_
  obtain ⟨a4, o4, hf⟩ := jm_rd_ok hf
  obtain ⟨v4, S4, h4, hf⟩ := jm_bd_ok hf
  refine jw_cV (q := (RJx4a65c, TJx4a65c, 3)) C hJ hS o4 rfl (cJx4a65c_size_8abf5_C l G a4 h4) (cwV 0 C.2.2.2.2.1 gX1_commonLength_Jx4a65c_size_8abf5 rfl rfl rfl (by decide +kernel) ⟨Nat.le_of_ble_eq_true rfl, Nat.le_of_ble_eq_true rfl⟩) rfl hl.1 rfl (Nat.le_of_ble_eq_true rfl) dX1_commonLength_11 ⟨Nat.le_refl _, Nat.le_refl _⟩ (fun H locs hJ hS => ?_)
  refine va_mmin C.1 C.2.1 (by rw [C.2.2.1]; exact hl.1.symm) C.2.2.2.1 (jm_w C 2 rfl) (jm_w C 3 rfl) (jm_w C 4 rfl) (jm_w C 5 rfl) (Nat.le_of_ble_eq_true rfl) (jm_w8r _ (Nat.le_of_ble_eq_true rfl) (Nat.le_of_ble_eq_true rfl)) (Nat.le_refl _) (Nat.le_refl _) dX1_commonLength_14 ?_
  refine jw_istore_n C dX1_commonLength_17 rfl hl (by decide) rfl (fun ls hl => ?_)
  refine lv_iconst (v := 0) C.1 C.2.1 dX1_commonLength_18 (by decide) ?_
  refine jw_istore_n C dX1_commonLength_19 rfl hl (by decide) rfl (fun ls hl => ?_)
  exact kX1_commonLength_20 C 4096 h0 x1 (if v4 < v2 then v4 else v2) 0 hf hJ hS (hl.sub [2, 3, 1, 0] rfl)
set_option maxHeartbeats 4000000 in
set_option maxRecDepth 100000 in
theorem cX1_commonLength_C (l : Launch) (G : jm_G) (h0 : Nat) (x1 : Option Nat) {S Sf : jm_S} {rv : Int32} (hf : fX1_commonLength h0 x1 S = some (rv, Sf)) : Met l yX1_commonLength wsX1_commonLength ({ frames := 3, cells := 0, slots := 0, locals := 64 } : Room) (jm_Pc G S [.ref h0, va_rf x1]) (jm_Q G (some (.int rv)) Sf) 0 0 (jm_A G) := by
  refine Met.ofW (cc := cX1_commonLength) (maxL := 4) (ret := (some .int)) (by decide) rfl ?_
  intro p e s m args below meth c s₁ B hml hv
  obtain ⟨rfl, hJ, hX⟩ := hv
  have C : jm_C G cX1_commonLength 4 RX1 wsX1_commonLength ((some .int)) p s m _ meth c := ⟨B.exec, B.bytes, hml, findClass_of_methodNamed B.named, atoms_spec (ws := wsX1_commonLength) B.pre, B.returns, B.notSynchronized, hX⟩
  obtain ⟨ls, he, hl⟩ := jm_entry m [.inr (some h0), .inr x1] (n := 4) (Nat.le_of_ble_eq_true rfl)
  have he : entryFrame m ([.ref h0, va_rf x1] : List Value).toArray 4 = F0 m 0 ls [] := he
  rw [he]
  exact kX1_commonLength C h0 x1 hf hJ va_S.rf (hl.sub [0, 1] rfl)
/-! CoordinationService$Server.copyLogOf -/
def fX1_copyLogOf_68 : Nat → Nat → Option Nat → Int32 → Int32 → Int32 → Int32 → jm_P Int32
  | 0, _, _, _, _, _, _ => jm_no
  | n + 1, h0, x1, x2, x3, x4, x5 => (if x4 ≤ x5 then jm_ret (((100 * x3) + x4) - x2) else jm_rd (jm_gR (some h0) 2 2) fun v11 => jm_rd (jm_gR x1 2 2) fun v12 => jm_rd (jm_o v12 0) fun a13 => jm_bd (fJx4a65c_get_915e3 a13 x5) fun v13 => jm_rd (jm_ck v13 4) fun _ => jm_rd (jm_o v11 0) fun a15 => jm_bd (fJx4a65c_add_9ea2d a15 v13) fun v15 => fX1_copyLogOf_68 n h0 x1 x2 x3 x4 (x5 + 1))
def fX1_copyLogOf_43 : Nat → Nat → Option Nat → Int32 → Int32 → Int32 → Int32 → jm_P Int32
  | 0, _, _, _, _, _, _ => jm_no
  | n + 1, h0, x1, x2, x3, x4, x5 => (if x5 < x2 then fX1_copyLogOf_68 4096 h0 x1 x2 x3 x4 x2 else jm_rd (jm_gR (some h0) 2 2) fun v16 => jm_rd (jm_o v16 0) fun a17 => jm_bd (fJx4a65c_remove_915e3 a17 x5) fun v17 => fX1_copyLogOf_43 n h0 x1 x2 x3 x4 (x5 + (-1)))
def fX1_copyLogOf (h0 : Nat) (x1 : Option Nat) : jm_P Int32 := (if x1 = some h0 then jm_ret 0 else jm_rd (jm_o (some h0) 2) fun a2 => jm_bd (fX1_commonLength a2 x1) fun v2 => jm_rd (jm_gR (some h0) 2 2) fun v3 => jm_rd (jm_o v3 0) fun a4 => jm_bd (fJx4a65c_size_8abf5 a4) fun v4 => jm_rd (jm_gR x1 2 2) fun v5 => jm_rd (jm_o v5 0) fun a6 => jm_bd (fJx4a65c_size_8abf5 a6) fun v6 => jm_rd (jm_gR (some h0) 2 2) fun v7 => jm_rd (jm_o v7 0) fun a8 => jm_bd (fJx4a65c_size_8abf5 a8) fun v8 => fX1_copyLogOf_43 4096 h0 x1 v2 (v4 - v2) v6 (v8 - 1))
theorem inX1_copyLogOf_X1 : ∀ w ∈ wsX10, w ∈ wsX1_copyLogOf := fun _ h => List.mem_cons_of_mem _ (List.mem_append_left _ (List.mem_append_left _ (List.mem_append_right _ h)))
theorem moX1_copyLogOf_68 : ∀ (n : Nat) (h0 : Nat) (x1 : Option Nat) (x2 : Int32) (x3 : Int32) (x4 : Int32) (x5 : Int32), jm_Mo (fX1_copyLogOf_68 n h0 x1 x2 x3 x4 x5) := by
  intro n
  induction n with
  | zero =>
    intro h0 x1 x2 x3 x4 x5
    rw [fX1_copyLogOf_68]
    exact jm_Mo_no
  | succ n ih =>
    intro h0 x1 x2 x3 x4 x5
    rw [fX1_copyLogOf_68]
    exact jm_Mo_if (jm_Mo_ret _) (jm_Mo_rd (fun _ => jm_Mo_rd (fun _ => jm_Mo_rd (fun _ => jm_Mo_bd (moJx4a65c_get_915e3 _ _) (fun _ => jm_Mo_rd (fun _ => jm_Mo_rd (fun _ => jm_Mo_bd (moJx4a65c_add_9ea2d _ _) (fun _ => ih _ _ _ _ _ _))))))))
set_option maxHeartbeats 4000000 in
set_option maxRecDepth 100000 in
theorem kX1_copyLogOf_68 {rv : Int32} {Sf : jm_S} (C : jm_C G cX1_copyLogOf 6 RX1 wsX1_copyLogOf ((some .int)) p s m args meth c) {n0 m0 mc ms : Nat} (hr1 : Sf.2.1 ≤ n0 + mc) (hr2 : Sf.2.2.1 ≤ m0 + ms) : ∀ (n : Nat) (h0 : Nat) (x1 : Option Nat) (x2 : Int32) (x3 : Int32) (x4 : Int32) (x5 : Int32) {S : jm_S} {H : Heap} {locs : List Loc} {ls : Array Slot} {cells slots : Nat}, fX1_copyLogOf_68 n h0 x1 x2 x3 x4 x5 S = some (rv, Sf) → jm_J G S H → va_S (jm_A G) s.heap H locs → jm_L ls 6 [(0, .inr (some h0)), (1, .inr x1), (2, .inl x2), (3, .inl x3), (4, .inl x4), (5, .inl x5)] → cells + n0 ≤ S.2.1 → slots + m0 ≤ S.2.2.1 → W p l e ({ frames := 7, cells := mc, slots := ms, locals := 171 } : Room) s m args below meth c H locs cells slots (MQ below (jm_Q G (some (.int rv)) Sf) args s mc ms (jm_A G)) (F0 m 68 ls []) := by
  intro n
  induction n with
  | zero =>
    intro h0 x1 x2 x3 x4 x5 S H locs ls cells slots hf
    rw [fX1_copyLogOf_68] at hf
    exact absurd hf (fun h => jm_no_ok h)
  | succ n ih =>
    intro h0 x1 x2 x3 x4 x5 S H locs ls cells slots hf hJ hS hl hc1 hc2
    rw [fX1_copyLogOf_68] at hf
    refine lv_iload C.1 C.2.1 dX1_copyLogOf_68 (hl.at 5 rfl) ?_
    refine lv_iload C.1 C.2.1 dX1_copyLogOf_70 (hl.at 4 rfl) ?_
    refine lv_icmp_ge (tgt := 101) C.1 C.2.1 dX1_copyLogOf_72 (by decide) (fun hq10 => ?_) (fun hq10 => ?_)
    · replace hf := jm_ift hf hq10
      refine lv_bipush (v := 100) C.1 C.2.1 dX1_copyLogOf_101 (by decide) ?_
      refine lv_iload_n C.1 C.2.1 dX1_copyLogOf_103 rfl (hl.at 3 rfl) ?_
      refine lv_imul C.1 C.2.1 dX1_copyLogOf_104 ?_
      refine lv_iload C.1 C.2.1 dX1_copyLogOf_105 (hl.at 4 rfl) ?_
      refine lv_iadd C.1 C.2.1 dX1_copyLogOf_107 ?_
      refine lv_iload_n C.1 C.2.1 dX1_copyLogOf_108 rfl (hl.at 2 rfl) ?_
      refine lv_isub C.1 C.2.1 dX1_copyLogOf_109 ?_
      obtain ⟨rfl, rfl⟩ := jm_ret_ok hf
      exact jw_ri C hJ hS (by omega) (by omega) dX1_copyLogOf_110
    · replace hf := jm_iff hf hq10
      refine jw_aload_n C dX1_copyLogOf_75 rfl (hl.at 0 rfl) ?_
      obtain ⟨v11, h11, hf⟩ := jm_rd_ok hf
      refine jw_gR (Cn := RX1) (T := TX1) (N := 7) C hJ h11 rfl inX1_copyLogOf_X1 (by decide) (jm_w C 1 rfl) (fun _ h => h) dX1_copyLogOf_76 ?_
      refine jw_aload_n C dX1_copyLogOf_79 rfl (hl.at 1 rfl) ?_
      obtain ⟨v12, h12, hf⟩ := jm_rd_ok hf
      refine jw_gR (Cn := RX1) (T := TX1) (N := 7) C hJ h12 rfl inX1_copyLogOf_X1 (by decide) (jm_w C 1 rfl) (fun _ h => h) dX1_copyLogOf_80 ?_
      refine lv_iload C.1 C.2.1 dX1_copyLogOf_83 (hl.at 5 rfl) ?_
      obtain ⟨a13, o13, hf⟩ := jm_rd_ok hf
      obtain ⟨v13, S13, h13, hf⟩ := jm_bd_ok hf
      have e13 := moJx4a65c_get_915e3 a13 x5 _ _ _ h13
      have g13 := jm_mo hf (jm_Mo_rd (fun _ => jm_Mo_rd (fun _ => jm_Mo_bd (moJx4a65c_add_9ea2d _ _) (fun _ => moX1_copyLogOf_68 _ _ _ _ _ _ _))))
      refine jw_cV (q := (RJx4a65c, TJx4a65c, 3)) C hJ hS o13 rfl (cJx4a65c_get_915e3_C l G a13 x5 h13) (cwV 1 C.2.2.2.2.1 gX1_copyLogOf_Jx4a65c_get_915e3 rfl rfl rfl (by decide +kernel) ⟨Nat.le_of_ble_eq_true rfl, Nat.le_of_ble_eq_true rfl⟩) rfl hl.1 rfl (Nat.le_of_ble_eq_true rfl) dX1_copyLogOf_85 ⟨by show cells + 0 ≤ mc; omega, by show slots + 0 ≤ ms; omega⟩ (fun H locs hJ hS => ?_)
      replace hc1 : cells + 0 + n0 ≤ S13.2.1 := by omega
      replace hc2 : slots + 0 + m0 ≤ S13.2.2.1 := by omega
      generalize cells + 0 = cells at hc1 ⊢
      generalize slots + 0 = slots at hc2 ⊢
      obtain ⟨u14, h14, hf⟩ := jm_rd_ok hf
      refine jw_ck (q := (RX3, TX3, 5)) C hJ h14 rfl (jm_w C 2 rfl) dX1_copyLogOf_88 ?_
      obtain ⟨a15, o15, hf⟩ := jm_rd_ok hf
      obtain ⟨v15, S15, h15, hf⟩ := jm_bd_ok hf
      have e15 := moJx4a65c_add_9ea2d a15 v13 _ _ _ h15
      have g15 := jm_mo hf (moX1_copyLogOf_68 _ _ _ _ _ _ _)
      refine jw_cV (q := (RJx4a65c, TJx4a65c, 3)) C hJ hS o15 rfl (cJx4a65c_add_9ea2d_C l G a15 v13 h15 (S15.2.1 - S13.2.1) (S15.2.2.1 - S13.2.2.1) (by omega) (by omega)) (cwV 1 C.2.2.2.2.1 gX1_copyLogOf_Jx4a65c_add_9ea2d rfl rfl rfl (by decide +kernel) ⟨Nat.le_of_ble_eq_true rfl, Nat.le_of_ble_eq_true rfl⟩) rfl hl.1 rfl (Nat.le_of_ble_eq_true rfl) dX1_copyLogOf_91 ⟨by show cells + _ ≤ mc; omega, by show slots + _ ≤ ms; omega⟩ (fun H locs hJ hS => ?_)
      replace hc1 : cells + (S15.2.1 - S13.2.1) + n0 ≤ S15.2.1 := by omega
      replace hc2 : slots + (S15.2.2.1 - S13.2.2.1) + m0 ≤ S15.2.2.1 := by omega
      generalize cells + (S15.2.1 - S13.2.1) = cells at hc1 ⊢
      generalize slots + (S15.2.2.1 - S13.2.2.1) = slots at hc2 ⊢
      refine lv_pop C.1 C.2.1 dX1_copyLogOf_94 rfl ?_
      refine jw_iinc (v := x5 + 1) C 5 dX1_copyLogOf_95 hl rfl (by rfl) (by decide) rfl (fun ls hl => ?_)
      refine lv_goto (tgt := 68) C.1 C.2.1 dX1_copyLogOf_98 (by decide) ?_
      exact ih h0 x1 x2 x3 x4 (x5 + 1) hf hJ hS (hl.sub [1, 2, 3, 4, 5, 0] rfl) hc1 hc2
theorem moX1_copyLogOf_43 : ∀ (n : Nat) (h0 : Nat) (x1 : Option Nat) (x2 : Int32) (x3 : Int32) (x4 : Int32) (x5 : Int32), jm_Mo (fX1_copyLogOf_43 n h0 x1 x2 x3 x4 x5) := by
  intro n
  induction n with
  | zero =>
    intro h0 x1 x2 x3 x4 x5
    rw [fX1_copyLogOf_43]
    exact jm_Mo_no
  | succ n ih =>
    intro h0 x1 x2 x3 x4 x5
    rw [fX1_copyLogOf_43]
    exact jm_Mo_if (moX1_copyLogOf_68 _ _ _ _ _ _ _) (jm_Mo_rd (fun _ => jm_Mo_rd (fun _ => jm_Mo_bd (moJx4a65c_remove_915e3 _ _) (fun _ => ih _ _ _ _ _ _))))
set_option maxHeartbeats 4000000 in
set_option maxRecDepth 100000 in
theorem kX1_copyLogOf_43 {rv : Int32} {Sf : jm_S} (C : jm_C G cX1_copyLogOf 6 RX1 wsX1_copyLogOf ((some .int)) p s m args meth c) {n0 m0 mc ms : Nat} (hr1 : Sf.2.1 ≤ n0 + mc) (hr2 : Sf.2.2.1 ≤ m0 + ms) : ∀ (n : Nat) (h0 : Nat) (x1 : Option Nat) (x2 : Int32) (x3 : Int32) (x4 : Int32) (x5 : Int32) {S : jm_S} {H : Heap} {locs : List Loc} {ls : Array Slot} {cells slots : Nat}, fX1_copyLogOf_43 n h0 x1 x2 x3 x4 x5 S = some (rv, Sf) → jm_J G S H → va_S (jm_A G) s.heap H locs → jm_L ls 6 [(0, .inr (some h0)), (1, .inr x1), (2, .inl x2), (3, .inl x3), (4, .inl x4), (5, .inl x5)] → cells + n0 ≤ S.2.1 → slots + m0 ≤ S.2.2.1 → W p l e ({ frames := 7, cells := mc, slots := ms, locals := 171 } : Room) s m args below meth c H locs cells slots (MQ below (jm_Q G (some (.int rv)) Sf) args s mc ms (jm_A G)) (F0 m 43 ls []) := by
  intro n
  induction n with
  | zero =>
    intro h0 x1 x2 x3 x4 x5 S H locs ls cells slots hf
    rw [fX1_copyLogOf_43] at hf
    exact absurd hf (fun h => jm_no_ok h)
  | succ n ih =>
    intro h0 x1 x2 x3 x4 x5 S H locs ls cells slots hf hJ hS hl hc1 hc2
    rw [fX1_copyLogOf_43] at hf
    refine lv_iload C.1 C.2.1 dX1_copyLogOf_43 (hl.at 5 rfl) ?_
    refine lv_iload_n C.1 C.2.1 dX1_copyLogOf_45 rfl (hl.at 2 rfl) ?_
    refine lv_icmp_lt (tgt := 65) C.1 C.2.1 dX1_copyLogOf_46 (by decide) (fun hq9 => ?_) (fun hq9 => ?_)
    · replace hf := jm_ift hf hq9
      refine lv_iload_n C.1 C.2.1 dX1_copyLogOf_65 rfl (hl.at 2 rfl) ?_
      refine jw_istore C dX1_copyLogOf_66 hl (by decide) rfl (fun ls hl => ?_)
      exact kX1_copyLogOf_68 C hr1 hr2 4096 h0 x1 x2 x3 x4 x2 hf hJ hS (hl.sub [1, 2, 3, 4, 5, 0] rfl) hc1 hc2
    · replace hf := jm_iff hf hq9
      refine jw_aload_n C dX1_copyLogOf_49 rfl (hl.at 0 rfl) ?_
      obtain ⟨v16, h16, hf⟩ := jm_rd_ok hf
      refine jw_gR (Cn := RX1) (T := TX1) (N := 7) C hJ h16 rfl inX1_copyLogOf_X1 (by decide) (jm_w C 1 rfl) (fun _ h => h) dX1_copyLogOf_50 ?_
      refine lv_iload C.1 C.2.1 dX1_copyLogOf_53 (hl.at 5 rfl) ?_
      obtain ⟨a17, o17, hf⟩ := jm_rd_ok hf
      obtain ⟨v17, S17, h17, hf⟩ := jm_bd_ok hf
      have e17 := moJx4a65c_remove_915e3 a17 x5 _ _ _ h17
      have g17 := jm_mo hf (moX1_copyLogOf_43 _ _ _ _ _ _ _)
      refine jw_cV (q := (RJx4a65c, TJx4a65c, 3)) C hJ hS o17 rfl (cJx4a65c_remove_915e3_C l G a17 x5 h17) (cwV 1 C.2.2.2.2.1 gX1_copyLogOf_Jx4a65c_remove_915e3 rfl rfl rfl (by decide +kernel) ⟨Nat.le_of_ble_eq_true rfl, Nat.le_of_ble_eq_true rfl⟩) rfl hl.1 rfl (Nat.le_of_ble_eq_true rfl) dX1_copyLogOf_55 ⟨by show cells + 0 ≤ mc; omega, by show slots + 0 ≤ ms; omega⟩ (fun H locs hJ hS => ?_)
      replace hc1 : cells + 0 + n0 ≤ S17.2.1 := by omega
      replace hc2 : slots + 0 + m0 ≤ S17.2.2.1 := by omega
      generalize cells + 0 = cells at hc1 ⊢
      generalize slots + 0 = slots at hc2 ⊢
      refine lv_pop C.1 C.2.1 dX1_copyLogOf_58 (jm_catr _) ?_
      refine jw_iinc (v := x5 + (-1)) C 5 dX1_copyLogOf_59 hl rfl (by rfl) (by decide) rfl (fun ls hl => ?_)
      refine lv_goto (tgt := 43) C.1 C.2.1 dX1_copyLogOf_62 (by decide) ?_
      exact ih h0 x1 x2 x3 x4 (x5 + (-1)) hf hJ hS (hl.sub [1, 2, 3, 4, 5, 0] rfl) hc1 hc2
theorem moX1_copyLogOf (h0 : Nat) (x1 : Option Nat) : jm_Mo (fX1_copyLogOf h0 x1) := by
  unfold fX1_copyLogOf
  exact jm_Mo_if (jm_Mo_ret _) (jm_Mo_rd (fun _ => jm_Mo_bd (moX1_commonLength _ _) (fun _ => jm_Mo_rd (fun _ => jm_Mo_rd (fun _ => jm_Mo_bd (moJx4a65c_size_8abf5 _) (fun _ => jm_Mo_rd (fun _ => jm_Mo_rd (fun _ => jm_Mo_bd (moJx4a65c_size_8abf5 _) (fun _ => jm_Mo_rd (fun _ => jm_Mo_rd (fun _ => jm_Mo_bd (moJx4a65c_size_8abf5 _) (fun _ => moX1_copyLogOf_43 _ _ _ _ _ _ _))))))))))))
set_option maxHeartbeats 4000000 in
set_option maxRecDepth 100000 in
theorem kX1_copyLogOf {rv : Int32} {Sf : jm_S} (C : jm_C G cX1_copyLogOf 6 RX1 wsX1_copyLogOf ((some .int)) p s m args meth c) {n0 m0 mc ms : Nat} (hr1 : Sf.2.1 ≤ n0 + mc) (hr2 : Sf.2.2.1 ≤ m0 + ms) : ∀ (h0 : Nat) (x1 : Option Nat) {S : jm_S} {H : Heap} {locs : List Loc} {ls : Array Slot} {cells slots : Nat}, fX1_copyLogOf h0 x1 S = some (rv, Sf) → jm_J G S H → va_S (jm_A G) s.heap H locs → jm_L ls 6 [(0, .inr (some h0)), (1, .inr x1)] → cells + n0 ≤ S.2.1 → slots + m0 ≤ S.2.2.1 → W p l e ({ frames := 7, cells := mc, slots := ms, locals := 171 } : Room) s m args below meth c H locs cells slots (MQ below (jm_Q G (some (.int rv)) Sf) args s mc ms (jm_A G)) (F0 m 0 ls []) := by
  intro h0 x1 S H locs ls cells slots hf hJ hS hl hc1 hc2
  unfold fX1_copyLogOf at hf
  refine jw_aload_n C dX1_copyLogOf_0 rfl (hl.at 1 rfl) ?_
  refine jw_aload_n C dX1_copyLogOf_1 rfl (hl.at 0 rfl) ?_
  refine lv_acmp_ne (rx := x1) (ry := some h0) (tgt := 7) C.1 C.2.1 dX1_copyLogOf_2 (by decide) (fun hq1 => ?_) (fun hq1 => ?_)
  · replace hf := jm_iff hf hq1
    refine jw_aload_n C dX1_copyLogOf_7 rfl (hl.at 0 rfl) ?_
    refine jw_aload_n C dX1_copyLogOf_8 rfl (hl.at 1 rfl) ?_
    obtain ⟨a2, o2, hf⟩ := jm_rd_ok hf
    obtain ⟨v2, S2, h2, hf⟩ := jm_bd_ok hf
    have e2 := moX1_commonLength a2 x1 _ _ _ h2
    have g2 := jm_mo hf (jm_Mo_rd (fun _ => jm_Mo_rd (fun _ => jm_Mo_bd (moJx4a65c_size_8abf5 _) (fun _ => jm_Mo_rd (fun _ => jm_Mo_rd (fun _ => jm_Mo_bd (moJx4a65c_size_8abf5 _) (fun _ => jm_Mo_rd (fun _ => jm_Mo_rd (fun _ => jm_Mo_bd (moJx4a65c_size_8abf5 _) (fun _ => moX1_copyLogOf_43 _ _ _ _ _ _ _))))))))))
    refine jw_cV (q := (RX1, TX1, 7)) C hJ hS o2 rfl (cX1_commonLength_C l G a2 x1 h2) (cwV 1 C.2.2.2.2.1 gX1_copyLogOf_X1_commonLength rfl rfl rfl (by decide +kernel) ⟨Nat.le_of_ble_eq_true rfl, Nat.le_of_ble_eq_true rfl⟩) rfl hl.1 rfl (Nat.le_of_ble_eq_true rfl) dX1_copyLogOf_9 ⟨by show cells + 0 ≤ mc; omega, by show slots + 0 ≤ ms; omega⟩ (fun H locs hJ hS => ?_)
    replace hc1 : cells + 0 + n0 ≤ S2.2.1 := by omega
    replace hc2 : slots + 0 + m0 ≤ S2.2.2.1 := by omega
    generalize cells + 0 = cells at hc1 ⊢
    generalize slots + 0 = slots at hc2 ⊢
    refine jw_istore_n C dX1_copyLogOf_12 rfl hl (by decide) rfl (fun ls hl => ?_)
    refine jw_aload_n C dX1_copyLogOf_13 rfl (hl.at 1 rfl) ?_
    obtain ⟨v3, h3, hf⟩ := jm_rd_ok hf
    refine jw_gR (Cn := RX1) (T := TX1) (N := 7) C hJ h3 rfl inX1_copyLogOf_X1 (by decide) (jm_w C 1 rfl) (fun _ h => h) dX1_copyLogOf_14 ?_
    obtain ⟨a4, o4, hf⟩ := jm_rd_ok hf
    obtain ⟨v4, S4, h4, hf⟩ := jm_bd_ok hf
    have e4 := moJx4a65c_size_8abf5 a4 _ _ _ h4
    have g4 := jm_mo hf (jm_Mo_rd (fun _ => jm_Mo_rd (fun _ => jm_Mo_bd (moJx4a65c_size_8abf5 _) (fun _ => jm_Mo_rd (fun _ => jm_Mo_rd (fun _ => jm_Mo_bd (moJx4a65c_size_8abf5 _) (fun _ => moX1_copyLogOf_43 _ _ _ _ _ _ _)))))))
    refine jw_cV (q := (RJx4a65c, TJx4a65c, 3)) C hJ hS o4 rfl (cJx4a65c_size_8abf5_C l G a4 h4) (cwV 0 C.2.2.2.2.1 gX1_copyLogOf_Jx4a65c_size_8abf5 rfl rfl rfl (by decide +kernel) ⟨Nat.le_of_ble_eq_true rfl, Nat.le_of_ble_eq_true rfl⟩) rfl hl.1 rfl (Nat.le_of_ble_eq_true rfl) dX1_copyLogOf_17 ⟨by show cells + 0 ≤ mc; omega, by show slots + 0 ≤ ms; omega⟩ (fun H locs hJ hS => ?_)
    replace hc1 : cells + 0 + n0 ≤ S4.2.1 := by omega
    replace hc2 : slots + 0 + m0 ≤ S4.2.2.1 := by omega
    generalize cells + 0 = cells at hc1 ⊢
    generalize slots + 0 = slots at hc2 ⊢
    refine lv_iload_n C.1 C.2.1 dX1_copyLogOf_20 rfl (hl.at 0 rfl) ?_
    refine lv_isub C.1 C.2.1 dX1_copyLogOf_21 ?_
    refine jw_istore_n C dX1_copyLogOf_22 rfl hl (by decide) rfl (fun ls hl => ?_)
    refine jw_aload_n C dX1_copyLogOf_23 rfl (hl.at 3 rfl) ?_
    obtain ⟨v5, h5, hf⟩ := jm_rd_ok hf
    refine jw_gR (Cn := RX1) (T := TX1) (N := 7) C hJ h5 rfl inX1_copyLogOf_X1 (by decide) (jm_w C 1 rfl) (fun _ h => h) dX1_copyLogOf_24 ?_
    obtain ⟨a6, o6, hf⟩ := jm_rd_ok hf
    obtain ⟨v6, S6, h6, hf⟩ := jm_bd_ok hf
    have e6 := moJx4a65c_size_8abf5 a6 _ _ _ h6
    have g6 := jm_mo hf (jm_Mo_rd (fun _ => jm_Mo_rd (fun _ => jm_Mo_bd (moJx4a65c_size_8abf5 _) (fun _ => moX1_copyLogOf_43 _ _ _ _ _ _ _))))
    refine jw_cV (q := (RJx4a65c, TJx4a65c, 3)) C hJ hS o6 rfl (cJx4a65c_size_8abf5_C l G a6 h6) (cwV 0 C.2.2.2.2.1 gX1_copyLogOf_Jx4a65c_size_8abf5 rfl rfl rfl (by decide +kernel) ⟨Nat.le_of_ble_eq_true rfl, Nat.le_of_ble_eq_true rfl⟩) rfl hl.1 rfl (Nat.le_of_ble_eq_true rfl) dX1_copyLogOf_27 ⟨by show cells + 0 ≤ mc; omega, by show slots + 0 ≤ ms; omega⟩ (fun H locs hJ hS => ?_)
    replace hc1 : cells + 0 + n0 ≤ S6.2.1 := by omega
    replace hc2 : slots + 0 + m0 ≤ S6.2.2.1 := by omega
    generalize cells + 0 = cells at hc1 ⊢
    generalize slots + 0 = slots at hc2 ⊢
    refine jw_istore C dX1_copyLogOf_30 hl (by decide) rfl (fun ls hl => ?_)
    refine jw_aload_n C dX1_copyLogOf_32 rfl (hl.at 3 rfl) ?_
    obtain ⟨v7, h7, hf⟩ := jm_rd_ok hf
    refine jw_gR (Cn := RX1) (T := TX1) (N := 7) C hJ h7 rfl inX1_copyLogOf_X1 (by decide) (jm_w C 1 rfl) (fun _ h => h) dX1_copyLogOf_33 ?_
    obtain ⟨a8, o8, hf⟩ := jm_rd_ok hf
    obtain ⟨v8, S8, h8, hf⟩ := jm_bd_ok hf
    have e8 := moJx4a65c_size_8abf5 a8 _ _ _ h8
    have g8 := jm_mo hf (moX1_copyLogOf_43 _ _ _ _ _ _ _)
    refine jw_cV (q := (RJx4a65c, TJx4a65c, 3)) C hJ hS o8 rfl (cJx4a65c_size_8abf5_C l G a8 h8) (cwV 0 C.2.2.2.2.1 gX1_copyLogOf_Jx4a65c_size_8abf5 rfl rfl rfl (by decide +kernel) ⟨Nat.le_of_ble_eq_true rfl, Nat.le_of_ble_eq_true rfl⟩) rfl hl.1 rfl (Nat.le_of_ble_eq_true rfl) dX1_copyLogOf_36 ⟨by show cells + 0 ≤ mc; omega, by show slots + 0 ≤ ms; omega⟩ (fun H locs hJ hS => ?_)
    replace hc1 : cells + 0 + n0 ≤ S8.2.1 := by omega
    replace hc2 : slots + 0 + m0 ≤ S8.2.2.1 := by omega
    generalize cells + 0 = cells at hc1 ⊢
    generalize slots + 0 = slots at hc2 ⊢
    refine lv_iconst (v := 1) C.1 C.2.1 dX1_copyLogOf_39 (by decide) ?_
    refine lv_isub C.1 C.2.1 dX1_copyLogOf_40 ?_
    refine jw_istore C dX1_copyLogOf_41 hl (by decide) rfl (fun ls hl => ?_)
    exact kX1_copyLogOf_43 C hr1 hr2 4096 h0 x1 v2 (v4 - v2) v6 (v8 - 1) hf hJ hS (hl.sub [4, 5, 3, 2, 1, 0] rfl) hc1 hc2
  · replace hf := jm_ift hf hq1
    refine lv_iconst (v := 0) C.1 C.2.1 dX1_copyLogOf_5 (by decide) ?_
    obtain ⟨rfl, rfl⟩ := jm_ret_ok hf
    exact jw_ri C hJ hS (by omega) (by omega) dX1_copyLogOf_6
set_option maxHeartbeats 4000000 in
set_option maxRecDepth 100000 in
theorem cX1_copyLogOf_C (l : Launch) (G : jm_G) (h0 : Nat) (x1 : Option Nat) {S Sf : jm_S} {rv : Int32} (hf : fX1_copyLogOf h0 x1 S = some (rv, Sf)) (mc ms : Nat) (hr1 : Sf.2.1 ≤ S.2.1 + mc) (hr2 : Sf.2.2.1 ≤ S.2.2.1 + ms) : Met l yX1_copyLogOf wsX1_copyLogOf ({ frames := 7, cells := mc, slots := ms, locals := 171 } : Room) (jm_Pc G S [.ref h0, va_rf x1]) (jm_Q G (some (.int rv)) Sf) mc ms (jm_A G) := by
  refine Met.ofW (cc := cX1_copyLogOf) (maxL := 6) (ret := (some .int)) (by decide) rfl ?_
  intro p e s m args below meth c s₁ B hml hv
  obtain ⟨rfl, hJ, hX⟩ := hv
  have C : jm_C G cX1_copyLogOf 6 RX1 wsX1_copyLogOf ((some .int)) p s m _ meth c := ⟨B.exec, B.bytes, hml, findClass_of_methodNamed B.named, atoms_spec (ws := wsX1_copyLogOf) B.pre, B.returns, B.notSynchronized, hX⟩
  obtain ⟨ls, he, hl⟩ := jm_entry m [.inr (some h0), .inr x1] (n := 6) (Nat.le_of_ble_eq_true rfl)
  have he : entryFrame m ([.ref h0, va_rf x1] : List Value).toArray 6 = F0 m 0 ls [] := he
  rw [he]
  exact kX1_copyLogOf C (n0 := S.2.1) (m0 := S.2.2.1) hr1 hr2 h0 x1 hf hJ va_S.rf (hl.sub [0, 1] rfl) (by omega) (by omega)
/-! CoordinationService$Tree.find -/
def fX4_find_11 : Nat → Int32 → Option Nat → Int32 → Int32 → jm_P (Option Nat)
  | 0, _, _, _, _ => jm_no
  | n + 1, x1, x2, x3, x4 => (if x3 ≤ x4 then jm_ret none else jm_rd (jm_gq x2 2 x4) fun v4 => jm_rd (jm_gI v4 1 0) fun v5 => (if v5 = x1 then jm_ret v4 else fX4_find_11 n x1 x2 x3 (x4 + 1)))
def fX4_find (h0 : Nat) (x1 : Int32) : jm_P (Option Nat) := jm_rd (jm_gR (some h0) 5 1) fun v1 => jm_rd (jm_lq v1 2) fun v2 => fX4_find_11 4096 x1 v1 v2 0
theorem inX4_find_X4 : ∀ w ∈ wsX40, w ∈ wsX4_find := fun _ h => List.mem_cons_of_mem _ (List.mem_append_left _ (List.mem_append_right _ h))
theorem inX4_find_X0 : ∀ w ∈ wsX00, w ∈ wsX4_find := fun _ h => List.mem_cons_of_mem _ (List.mem_append_right _ h)
theorem moX4_find_11 : ∀ (n : Nat) (x1 : Int32) (x2 : Option Nat) (x3 : Int32) (x4 : Int32), jm_Mo (fX4_find_11 n x1 x2 x3 x4) := by
  intro n
  induction n with
  | zero =>
    intro x1 x2 x3 x4
    rw [fX4_find_11]
    exact jm_Mo_no
  | succ n ih =>
    intro x1 x2 x3 x4
    rw [fX4_find_11]
    exact jm_Mo_if (jm_Mo_ret _) (jm_Mo_rd (fun _ => jm_Mo_rd (fun _ => jm_Mo_if (jm_Mo_ret _) (ih _ _ _ _))))
set_option maxHeartbeats 4000000 in
set_option maxRecDepth 100000 in
theorem kX4_find_11 {rv : (Option Nat)} {Sf : jm_S} (C : jm_C G cX4_find 6 RX4 wsX4_find ((some (.object "CoordinationService$Node"))) p s m args meth c) : ∀ (n : Nat) (x1 : Int32) (x2 : Option Nat) (x3 : Int32) (x4 : Int32) {S : jm_S} {H : Heap} {locs : List Loc} {ls : Array Slot}, fX4_find_11 n x1 x2 x3 x4 S = some (rv, Sf) → jm_J G S H → va_S (jm_A G) s.heap H locs → jm_L ls 6 [(1, .inl x1), (2, .inr x2), (3, .inl x3), (4, .inl x4)] → W p l e ({ frames := 0, cells := 0, slots := 0, locals := 0 } : Room) s m args below meth c H locs 0 0 (MQ below (jm_Q G (some (va_rf rv)) Sf) args s 0 0 (jm_A G)) (F0 m 11 ls []) := by
  intro n
  induction n with
  | zero =>
    intro x1 x2 x3 x4 S H locs ls hf
    rw [fX4_find_11] at hf
    exact absurd hf (fun h => jm_no_ok h)
  | succ n ih =>
    intro x1 x2 x3 x4 S H locs ls hf hJ hS hl
    rw [fX4_find_11] at hf
    refine lv_iload C.1 C.2.1 dX4_find_11 (hl.at 3 rfl) ?_
    refine lv_iload_n C.1 C.2.1 dX4_find_13 rfl (hl.at 2 rfl) ?_
    refine lv_icmp_ge (tgt := 41) C.1 C.2.1 dX4_find_14 (by decide) (fun hq3 => ?_) (fun hq3 => ?_)
    · replace hf := jm_ift hf hq3
      refine lv_null C.1 C.2.1 dX4_find_41 ?_
      show W _ _ _ _ _ _ _ _ _ _ _ _ _ _ _ (F0 _ _ _ (va_rf none :: _))
      obtain ⟨rfl, rfl⟩ := jm_ret_ok hf
      exact jw_ra C (Or.inl ⟨_, rfl⟩) hJ hS (Nat.le_refl _) (Nat.le_refl _) dX4_find_42
    · replace hf := jm_iff hf hq3
      refine jw_aload_n C dX4_find_17 rfl (hl.at 1 rfl) ?_
      refine lv_iload C.1 C.2.1 dX4_find_18 (hl.at 3 rfl) ?_
      obtain ⟨v4, h4, hf⟩ := jm_rd_ok hf
      refine jw_aaload C hJ h4 (by decide) rfl dX4_find_20 ?_
      refine jw_astore C dX4_find_21 hl (by decide) rfl (fun ls hl => ?_)
      refine jw_aload C dX4_find_23 (hl.at 0 rfl) ?_
      obtain ⟨v5, h5, hf⟩ := jm_rd_ok hf
      refine jw_gI (Cn := RX0) (T := TX0) (N := 4) C hJ h5 rfl inX4_find_X0 (by decide) (jm_w C 2 rfl) (fun _ h => h) dX4_find_25 ?_
      refine lv_iload_n C.1 C.2.1 dX4_find_28 rfl (hl.at 1 rfl) ?_
      refine lv_icmp_ne (tgt := 35) C.1 C.2.1 dX4_find_29 (by decide) (fun hq6 => ?_) (fun hq6 => ?_)
      · replace hf := jm_iff hf hq6
        refine jw_iinc (v := x4 + 1) C 4 dX4_find_35 hl rfl (by rfl) (by decide) rfl (fun ls hl => ?_)
        refine lv_goto (tgt := 11) C.1 C.2.1 dX4_find_38 (by decide) ?_
        exact ih x1 x2 x3 (x4 + 1) hf hJ hS (hl.sub [2, 3, 4, 0] rfl)
      · replace hf := jm_ift hf hq6
        refine jw_aload C dX4_find_32 (hl.at 0 rfl) ?_
        obtain ⟨rfl, rfl⟩ := jm_ret_ok hf
        exact jw_ra C (Or.inl ⟨_, rfl⟩) hJ hS (Nat.le_refl _) (Nat.le_refl _) dX4_find_34
theorem moX4_find (h0 : Nat) (x1 : Int32) : jm_Mo (fX4_find h0 x1) := by
  unfold fX4_find
  exact jm_Mo_rd (fun _ => jm_Mo_rd (fun _ => moX4_find_11 _ _ _ _ _))
set_option maxHeartbeats 4000000 in
set_option maxRecDepth 100000 in
theorem kX4_find {rv : (Option Nat)} {Sf : jm_S} (C : jm_C G cX4_find 6 RX4 wsX4_find ((some (.object "CoordinationService$Node"))) p s m args meth c) : ∀ (h0 : Nat) (x1 : Int32) {S : jm_S} {H : Heap} {locs : List Loc} {ls : Array Slot}, fX4_find h0 x1 S = some (rv, Sf) → jm_J G S H → va_S (jm_A G) s.heap H locs → jm_L ls 6 [(0, .inr (some h0)), (1, .inl x1)] → W p l e ({ frames := 0, cells := 0, slots := 0, locals := 0 } : Room) s m args below meth c H locs 0 0 (MQ below (jm_Q G (some (va_rf rv)) Sf) args s 0 0 (jm_A G)) (F0 m 0 ls []) := by
  intro h0 x1 S H locs ls hf hJ hS hl
  unfold fX4_find at hf
  refine jw_aload_n C dX4_find_0 rfl (hl.at 0 rfl) ?_
  obtain ⟨v1, h1, hf⟩ := jm_rd_ok hf
  refine jw_gR (Cn := RX4) (T := TX4) (N := 2) C hJ h1 rfl inX4_find_X4 (by decide) (jm_w C 1 rfl) (fun _ h => h) dX4_find_1 ?_
  refine jw_astore_n C dX4_find_4 rfl hl (by decide) rfl (fun ls hl => ?_)
  refine jw_aload_n C dX4_find_5 rfl (hl.at 0 rfl) ?_
  obtain ⟨v2, h2, hf⟩ := jm_rd_ok hf
  refine jw_lq C hJ hS h2 (by decide) rfl dX4_find_6 ?_
  refine jw_istore_n C dX4_find_7 rfl hl (by decide) rfl (fun ls hl => ?_)
  refine lv_iconst (v := 0) C.1 C.2.1 dX4_find_8 (by decide) ?_
  refine jw_istore C dX4_find_9 hl (by decide) rfl (fun ls hl => ?_)
  exact kX4_find_11 C 4096 x1 v1 v2 0 hf hJ hS (hl.sub [4, 2, 1, 0] rfl)
set_option maxHeartbeats 4000000 in
set_option maxRecDepth 100000 in
theorem cX4_find_C (l : Launch) (G : jm_G) (h0 : Nat) (x1 : Int32) {S Sf : jm_S} {rv : (Option Nat)} (hf : fX4_find h0 x1 S = some (rv, Sf)) : Met l yX4_find wsX4_find ({ frames := 0, cells := 0, slots := 0, locals := 0 } : Room) (jm_Pc G S [.ref h0, .int x1]) (jm_Q G (some (va_rf rv)) Sf) 0 0 (jm_A G) := by
  refine Met.ofW (cc := cX4_find) (maxL := 6) (ret := (some (.object "CoordinationService$Node"))) (by decide) rfl ?_
  intro p e s m args below meth c s₁ B hml hv
  obtain ⟨rfl, hJ, hX⟩ := hv
  have C : jm_C G cX4_find 6 RX4 wsX4_find ((some (.object "CoordinationService$Node"))) p s m _ meth c := ⟨B.exec, B.bytes, hml, findClass_of_methodNamed B.named, atoms_spec (ws := wsX4_find) B.pre, B.returns, B.notSynchronized, hX⟩
  obtain ⟨ls, he, hl⟩ := jm_entry m [.inr (some h0), .inl x1] (n := 6) (Nat.le_of_ble_eq_true rfl)
  have he : entryFrame m ([.ref h0, .int x1] : List Value).toArray 6 = F0 m 0 ls [] := he
  rw [he]
  exact kX4_find C h0 x1 hf hJ va_S.rf (hl.sub [0, 1] rfl)
/-! CoordinationService$Watch.isFor -/
def fX5_isFor (h0 : Nat) (x1 : Int32) (x2 : Int32) : jm_P Int32 := jm_rd (jm_gI (some h0) 6 0) fun v1 => (if v1 = x1 then jm_rd (jm_gI (some h0) 6 2) fun v4 => (if v4 = x2 then jm_rd (jm_z 1) fun _ => jm_ret 1 else jm_rd (jm_z 0) fun _ => jm_ret 0) else jm_rd (jm_z 0) fun _ => jm_ret 0)
theorem inX5_isFor_X5 : ∀ w ∈ wsX50, w ∈ wsX5_isFor := fun _ h => List.mem_cons_of_mem _ (List.mem_append_right _ h)
theorem moX5_isFor (h0 : Nat) (x1 : Int32) (x2 : Int32) : jm_Mo (fX5_isFor h0 x1 x2) := by
  unfold fX5_isFor
  exact jm_Mo_rd (fun _ => jm_Mo_if (jm_Mo_rd (fun _ => jm_Mo_if (jm_Mo_rd (fun _ => jm_Mo_ret _)) (jm_Mo_rd (fun _ => jm_Mo_ret _)))) (jm_Mo_rd (fun _ => jm_Mo_ret _)))
set_option maxHeartbeats 4000000 in
set_option maxRecDepth 100000 in
theorem kX5_isFor {rv : Int32} {Sf : jm_S} (C : jm_C G cX5_isFor 3 RX5 wsX5_isFor ((some .boolean)) p s m args meth c) : ∀ (h0 : Nat) (x1 : Int32) (x2 : Int32) {S : jm_S} {H : Heap} {locs : List Loc} {ls : Array Slot}, fX5_isFor h0 x1 x2 S = some (rv, Sf) → jm_J G S H → va_S (jm_A G) s.heap H locs → jm_L ls 3 [(0, .inr (some h0)), (1, .inl x1), (2, .inl x2)] → W p l e ({ frames := 0, cells := 0, slots := 0, locals := 0 } : Room) s m args below meth c H locs 0 0 (MQ below (jm_Q G (some (.int rv)) Sf) args s 0 0 (jm_A G)) (F0 m 0 ls []) := by
  intro h0 x1 x2 S H locs ls hf hJ hS hl
  unfold fX5_isFor at hf
  refine jw_aload_n C dX5_isFor_0 rfl (hl.at 0 rfl) ?_
  obtain ⟨v1, h1, hf⟩ := jm_rd_ok hf
  refine jw_gI (Cn := RX5) (T := TX5) (N := 3) C hJ h1 rfl inX5_isFor_X5 (by decide) (jm_w C 1 rfl) (fun _ h => h) dX5_isFor_1 ?_
  refine lv_iload_n C.1 C.2.1 dX5_isFor_4 rfl (hl.at 1 rfl) ?_
  refine lv_icmp_ne (tgt := 20) C.1 C.2.1 dX5_isFor_5 (by decide) (fun hq2 => ?_) (fun hq2 => ?_)
  · replace hf := jm_iff hf hq2
    refine lv_iconst (v := 0) C.1 C.2.1 dX5_isFor_20 (by decide) ?_
    obtain ⟨u3, z3, hf⟩ := jm_rd_ok hf
    obtain ⟨rfl, rfl⟩ := jm_ret_ok hf
    exact jw_rz C hJ hS z3 (Nat.le_refl _) (Nat.le_refl _) dX5_isFor_21
  · replace hf := jm_ift hf hq2
    refine jw_aload_n C dX5_isFor_8 rfl (hl.at 0 rfl) ?_
    obtain ⟨v4, h4, hf⟩ := jm_rd_ok hf
    refine jw_gI (Cn := RX5) (T := TX5) (N := 3) C hJ h4 rfl inX5_isFor_X5 (by decide) (jm_w C 2 rfl) (fun _ h => h) dX5_isFor_9 ?_
    refine lv_iload_n C.1 C.2.1 dX5_isFor_12 rfl (hl.at 2 rfl) ?_
    refine lv_icmp_ne (tgt := 20) C.1 C.2.1 dX5_isFor_13 (by decide) (fun hq5 => ?_) (fun hq5 => ?_)
    · replace hf := jm_iff hf hq5
      refine lv_iconst (v := 0) C.1 C.2.1 dX5_isFor_20 (by decide) ?_
      obtain ⟨u6, z6, hf⟩ := jm_rd_ok hf
      obtain ⟨rfl, rfl⟩ := jm_ret_ok hf
      exact jw_rz C hJ hS z6 (Nat.le_refl _) (Nat.le_refl _) dX5_isFor_21
    · replace hf := jm_ift hf hq5
      refine lv_iconst (v := 1) C.1 C.2.1 dX5_isFor_16 (by decide) ?_
      refine lv_goto (tgt := 21) C.1 C.2.1 dX5_isFor_17 (by decide) ?_
      obtain ⟨u7, z7, hf⟩ := jm_rd_ok hf
      obtain ⟨rfl, rfl⟩ := jm_ret_ok hf
      exact jw_rz C hJ hS z7 (Nat.le_refl _) (Nat.le_refl _) dX5_isFor_21
set_option maxHeartbeats 4000000 in
set_option maxRecDepth 100000 in
theorem cX5_isFor_C (l : Launch) (G : jm_G) (h0 : Nat) (x1 : Int32) (x2 : Int32) {S Sf : jm_S} {rv : Int32} (hf : fX5_isFor h0 x1 x2 S = some (rv, Sf)) : Met l yX5_isFor wsX5_isFor ({ frames := 0, cells := 0, slots := 0, locals := 0 } : Room) (jm_Pc G S [.ref h0, .int x1, .int x2]) (jm_Q G (some (.int rv)) Sf) 0 0 (jm_A G) := by
  refine Met.ofW (cc := cX5_isFor) (maxL := 3) (ret := (some .boolean)) (by decide) rfl ?_
  intro p e s m args below meth c s₁ B hml hv
  obtain ⟨rfl, hJ, hX⟩ := hv
  have C : jm_C G cX5_isFor 3 RX5 wsX5_isFor ((some .boolean)) p s m _ meth c := ⟨B.exec, B.bytes, hml, findClass_of_methodNamed B.named, atoms_spec (ws := wsX5_isFor) B.pre, B.returns, B.notSynchronized, hX⟩
  obtain ⟨ls, he, hl⟩ := jm_entry m [.inr (some h0), .inl x1, .inl x2] (n := 3) (Nat.le_of_ble_eq_true rfl)
  have he : entryFrame m ([.ref h0, .int x1, .int x2] : List Value).toArray 3 = F0 m 0 ls [] := he
  rw [he]
  exact kX5_isFor C h0 x1 x2 hf hJ va_S.rf (hl.sub [0, 1, 2] rfl)
/-! CoordinationService$Session.addEvent -/
def fX2_addEvent (h0 : Nat) (x1 : Int32) (x2 : Int32) : jm_P Unit := jm_rd (jm_gR (some h0) 3 2) fun v1 => jm_rd (jm_gI (some h0) 3 1) fun v2 => jm_wr (jm_si v1 0 (v2 &&& 7) ((10 * x2) + x1)) <| jm_rd (jm_gI (some h0) 3 1) fun v4 => jm_wr (jm_p (some h0) 3 1 (.inl (v4 + 1))) <| jm_ret ()
theorem inX2_addEvent_X2 : ∀ w ∈ wsX20, w ∈ wsX2_addEvent := fun _ h => List.mem_cons_of_mem _ (List.mem_append_right _ h)
theorem moX2_addEvent (h0 : Nat) (x1 : Int32) (x2 : Int32) : jm_Mo (fX2_addEvent h0 x1 x2) := by
  unfold fX2_addEvent
  exact jm_Mo_rd (fun _ => jm_Mo_rd (fun _ => jm_Mo_wr jm_si_st (jm_Mo_rd (fun _ => jm_Mo_wr jm_p_st (jm_Mo_ret _)))))
set_option maxHeartbeats 4000000 in
set_option maxRecDepth 100000 in
theorem kX2_addEvent {rv : Unit} {Sf : jm_S} (C : jm_C G cX2_addEvent 3 RX2 wsX2_addEvent (none) p s m args meth c) : ∀ (h0 : Nat) (x1 : Int32) (x2 : Int32) {S : jm_S} {H : Heap} {locs : List Loc} {ls : Array Slot}, fX2_addEvent h0 x1 x2 S = some (rv, Sf) → jm_J G S H → va_S (jm_A G) s.heap H locs → jm_L ls 3 [(0, .inr (some h0)), (1, .inl x1), (2, .inl x2)] → W p l e ({ frames := 0, cells := 0, slots := 0, locals := 0 } : Room) s m args below meth c H locs 0 0 (MQ below (jm_Q G (none) Sf) args s 0 0 (jm_A G)) (F0 m 0 ls []) := by
  intro h0 x1 x2 S H locs ls hf hJ hS hl
  unfold fX2_addEvent at hf
  refine jw_aload_n C dX2_addEvent_0 rfl (hl.at 0 rfl) ?_
  obtain ⟨v1, h1, hf⟩ := jm_rd_ok hf
  refine jw_gR (Cn := RX2) (T := TX2) (N := 3) C hJ h1 rfl inX2_addEvent_X2 (by decide) (jm_w C 1 rfl) (fun _ h => h) dX2_addEvent_1 ?_
  refine jw_aload_n C dX2_addEvent_4 rfl (hl.at 0 rfl) ?_
  obtain ⟨v2, h2, hf⟩ := jm_rd_ok hf
  refine jw_gI (Cn := RX2) (T := TX2) (N := 3) C hJ h2 rfl inX2_addEvent_X2 (by decide) (jm_w C 2 rfl) (fun _ h => h) dX2_addEvent_5 ?_
  refine lv_bipush (v := 7) C.1 C.2.1 dX2_addEvent_8 (by decide) ?_
  refine lv_iand C.1 C.2.1 dX2_addEvent_10 ?_
  refine lv_bipush (v := 10) C.1 C.2.1 dX2_addEvent_11 (by decide) ?_
  refine lv_iload_n C.1 C.2.1 dX2_addEvent_13 rfl (hl.at 2 rfl) ?_
  refine lv_imul C.1 C.2.1 dX2_addEvent_14 ?_
  refine lv_iload_n C.1 C.2.1 dX2_addEvent_15 rfl (hl.at 1 rfl) ?_
  refine lv_iadd C.1 C.2.1 dX2_addEvent_16 ?_
  obtain ⟨S3, h3, hf⟩ := jm_wr_ok hf
  refine jw_iastore C hJ hS h3 dX2_addEvent_17 (fun H locs hJ hS => ?_)
  refine jw_aload_n C dX2_addEvent_18 rfl (hl.at 0 rfl) ?_
  refine lv_dup C.1 C.2.1 dX2_addEvent_19 (jm_catr _) ?_
  obtain ⟨v4, h4, hf⟩ := jm_rd_ok hf
  refine jw_gI (Cn := RX2) (T := TX2) (N := 3) C hJ h4 rfl inX2_addEvent_X2 (by decide) (jm_w C 2 rfl) (fun _ h => h) dX2_addEvent_20 ?_
  refine lv_iconst (v := 1) C.1 C.2.1 dX2_addEvent_23 (by decide) ?_
  refine lv_iadd C.1 C.2.1 dX2_addEvent_24 ?_
  obtain ⟨S5, h5, hf⟩ := jm_wr_ok hf
  refine jw_p (x := .inl (v4 + 1)) (ty := .int) (Cn := RX2) (T := TX2) (N := 3) C hJ hS h5 rfl inX2_addEvent_X2 tyX2 tyX2_ok nmX2 (by decide) (jm_w C 2 rfl) (fun _ h => h) rfl (by decide +kernel) rfl rfl dX2_addEvent_25 (fun H locs hJ hS => ?_)
  obtain ⟨rfl, rfl⟩ := jm_ret_ok hf
  exact jw_rv C hJ hS (Nat.le_refl _) (Nat.le_refl _) dX2_addEvent_28
set_option maxHeartbeats 4000000 in
set_option maxRecDepth 100000 in
theorem cX2_addEvent_C (l : Launch) (G : jm_G) (h0 : Nat) (x1 : Int32) (x2 : Int32) {S Sf : jm_S} {rv : Unit} (hf : fX2_addEvent h0 x1 x2 S = some (rv, Sf)) : Met l yX2_addEvent wsX2_addEvent ({ frames := 0, cells := 0, slots := 0, locals := 0 } : Room) (jm_Pc G S [.ref h0, .int x1, .int x2]) (jm_Q G (none) Sf) 0 0 (jm_A G) := by
  refine Met.ofW (cc := cX2_addEvent) (maxL := 3) (ret := none) (by decide) rfl ?_
  intro p e s m args below meth c s₁ B hml hv
  obtain ⟨rfl, hJ, hX⟩ := hv
  have C : jm_C G cX2_addEvent 3 RX2 wsX2_addEvent (none) p s m _ meth c := ⟨B.exec, B.bytes, hml, findClass_of_methodNamed B.named, atoms_spec (ws := wsX2_addEvent) B.pre, B.returns, B.notSynchronized, hX⟩
  obtain ⟨ls, he, hl⟩ := jm_entry m [.inr (some h0), .inl x1, .inl x2] (n := 3) (Nat.le_of_ble_eq_true rfl)
  have he : entryFrame m ([.ref h0, .int x1, .int x2] : List Value).toArray 3 = F0 m 0 ls [] := he
  rw [he]
  exact kX2_addEvent C h0 x1 x2 hf hJ va_S.rf (hl.sub [0, 1, 2] rfl)
/-! CoordinationService$Watches.fire -/
def fX6_fire_67 : Nat → Nat → Int32 → Int32 → Int32 → jm_P Unit
  | 0, _, _, _, _ => jm_no
  | n + 1, h0, x1, x2, x5 => (if x5 < 0 then jm_ret () else jm_rd (jm_gR (some h0) 7 0) fun v7 => jm_rd (jm_o v7 0) fun a8 => jm_bd (fJx4a65c_get_915e3 a8 x5) fun v8 => jm_rd (jm_ck v8 6) fun _ => jm_rd (jm_o v8 6) fun a10 => jm_bd (fX5_isFor a10 x1 x2) fun v10 => (if v10 = 0 then fX6_fire_67 n h0 x1 x2 (x5 + (-1)) else jm_rd (jm_gR (some h0) 7 0) fun v12 => jm_rd (jm_o v12 0) fun a13 => jm_bd (fJx4a65c_remove_915e3 a13 x5) fun v13 => fX6_fire_67 n h0 x1 x2 (x5 + (-1))))
def fX6_fire_3 : Nat → Nat → Int32 → Int32 → Int32 → Int32 → Int32 → jm_P Unit
  | 0, _, _, _, _, _, _ => jm_no
  | n + 1, h0, x1, x2, x3, x4, x5 => jm_rd (jm_gR (some h0) 7 0) fun v1 => jm_rd (jm_o v1 0) fun a2 => jm_bd (fJx4a65c_size_8abf5 a2) fun v2 => (if v2 ≤ x5 then jm_rd (jm_gR (some h0) 7 0) fun v4 => jm_rd (jm_o v4 0) fun a5 => jm_bd (fJx4a65c_size_8abf5 a5) fun v5 => fX6_fire_67 4096 h0 x1 x2 (v5 - 1) else jm_rd (jm_gR (some h0) 7 0) fun v14 => jm_rd (jm_o v14 0) fun a15 => jm_bd (fJx4a65c_get_915e3 a15 x5) fun v15 => jm_rd (jm_ck v15 6) fun _ => jm_rd (jm_o v15 6) fun a17 => jm_bd (fX5_isFor a17 x1 x2) fun v17 => (if v17 = 0 then fX6_fire_3 n h0 x1 x2 x3 x4 (x5 + 1) else jm_rd (jm_gR v15 6 1) fun v19 => jm_rd (jm_o v19 3) fun a20 => jm_bd (fX2_addEvent a20 x3 x4) fun _ => fX6_fire_3 n h0 x1 x2 x3 x4 (x5 + 1)))
def fX6_fire (h0 : Nat) (x1 : Int32) (x2 : Int32) (x3 : Int32) (x4 : Int32) : jm_P Unit := fX6_fire_3 4096 h0 x1 x2 x3 x4 0
theorem inX6_fire_X6 : ∀ w ∈ wsX60, w ∈ wsX6_fire := fun _ h => List.mem_cons_of_mem _ (List.mem_append_left _ (List.mem_append_left _ (List.mem_append_left _ (List.mem_append_right _ h))))
theorem moX6_fire_67 : ∀ (n : Nat) (h0 : Nat) (x1 : Int32) (x2 : Int32) (x5 : Int32), jm_Mo (fX6_fire_67 n h0 x1 x2 x5) := by
  intro n
  induction n with
  | zero =>
    intro h0 x1 x2 x5
    rw [fX6_fire_67]
    exact jm_Mo_no
  | succ n ih =>
    intro h0 x1 x2 x5
    rw [fX6_fire_67]
    exact jm_Mo_if (jm_Mo_ret _) (jm_Mo_rd (fun _ => jm_Mo_rd (fun _ => jm_Mo_bd (moJx4a65c_get_915e3 _ _) (fun _ => jm_Mo_rd (fun _ => jm_Mo_rd (fun _ => jm_Mo_bd (moX5_isFor _ _ _) (fun _ => jm_Mo_if (ih _ _ _ _) (jm_Mo_rd (fun _ => jm_Mo_rd (fun _ => jm_Mo_bd (moJx4a65c_remove_915e3 _ _) (fun _ => ih _ _ _ _)))))))))))
set_option maxHeartbeats 4000000 in
set_option maxRecDepth 100000 in
theorem kX6_fire_67 {rv : Unit} {Sf : jm_S} (C : jm_C G cX6_fire 7 RX6 wsX6_fire (none) p s m args meth c) : ∀ (n : Nat) (h0 : Nat) (x1 : Int32) (x2 : Int32) (x5 : Int32) {S : jm_S} {H : Heap} {locs : List Loc} {ls : Array Slot}, fX6_fire_67 n h0 x1 x2 x5 S = some (rv, Sf) → jm_J G S H → va_S (jm_A G) s.heap H locs → jm_L ls 7 [(0, .inr (some h0)), (1, .inl x1), (2, .inl x2), (5, .inl x5)] → W p l e ({ frames := 3, cells := 0, slots := 0, locals := 86 } : Room) s m args below meth c H locs 0 0 (MQ below (jm_Q G (none) Sf) args s 0 0 (jm_A G)) (F0 m 67 ls []) := by
  intro n
  induction n with
  | zero =>
    intro h0 x1 x2 x5 S H locs ls hf
    rw [fX6_fire_67] at hf
    exact absurd hf (fun h => jm_no_ok h)
  | succ n ih =>
    intro h0 x1 x2 x5 S H locs ls hf hJ hS hl
    rw [fX6_fire_67] at hf
    refine lv_iload C.1 C.2.1 dX6_fire_67 (hl.at 3 rfl) ?_
    refine lv_if_lt (tgt := 108) C.1 C.2.1 dX6_fire_69 (by decide) (fun hq6 => ?_) (fun hq6 => ?_)
    · replace hf := jm_ift hf hq6
      obtain ⟨rfl, rfl⟩ := jm_ret_ok hf
      exact jw_rv C hJ hS (Nat.le_refl _) (Nat.le_refl _) dX6_fire_108
    · replace hf := jm_iff hf hq6
      refine jw_aload_n C dX6_fire_72 rfl (hl.at 0 rfl) ?_
      obtain ⟨v7, h7, hf⟩ := jm_rd_ok hf
      refine jw_gR (Cn := RX6) (T := TX6) (N := 1) C hJ h7 rfl inX6_fire_X6 (by decide) (jm_w C 1 rfl) (fun _ h => h) dX6_fire_73 ?_
      refine lv_iload C.1 C.2.1 dX6_fire_76 (hl.at 3 rfl) ?_
      obtain ⟨a8, o8, hf⟩ := jm_rd_ok hf
      obtain ⟨v8, S8, h8, hf⟩ := jm_bd_ok hf
      refine jw_cV (q := (RJx4a65c, TJx4a65c, 3)) C hJ hS o8 rfl (cJx4a65c_get_915e3_C l G a8 x5 h8) (cwV 1 C.2.2.2.2.1 gX6_fire_Jx4a65c_get_915e3 rfl rfl rfl (by decide +kernel) ⟨Nat.le_of_ble_eq_true rfl, Nat.le_of_ble_eq_true rfl⟩) rfl hl.1 rfl (Nat.le_of_ble_eq_true rfl) dX6_fire_78 ⟨Nat.le_refl _, Nat.le_refl _⟩ (fun H locs hJ hS => ?_)
      obtain ⟨u9, h9, hf⟩ := jm_rd_ok hf
      refine jw_ck (q := (RX5, TX5, 3)) C hJ h9 rfl (jm_w C 2 rfl) dX6_fire_81 ?_
      refine lv_iload_n C.1 C.2.1 dX6_fire_84 rfl (hl.at 1 rfl) ?_
      refine lv_iload_n C.1 C.2.1 dX6_fire_85 rfl (hl.at 2 rfl) ?_
      obtain ⟨a10, o10, hf⟩ := jm_rd_ok hf
      obtain ⟨v10, S10, h10, hf⟩ := jm_bd_ok hf
      refine jw_cV (q := (RX5, TX5, 3)) C hJ hS o10 rfl (cX5_isFor_C l G a10 x1 x2 h10) (cwV 2 C.2.2.2.2.1 gX6_fire_X5_isFor rfl rfl rfl (by decide +kernel) ⟨Nat.le_of_ble_eq_true rfl, Nat.le_of_ble_eq_true rfl⟩) rfl hl.1 rfl (Nat.le_of_ble_eq_true rfl) dX6_fire_86 ⟨Nat.le_refl _, Nat.le_refl _⟩ (fun H locs hJ hS => ?_)
      refine lv_if_eq (tgt := 102) C.1 C.2.1 dX6_fire_89 (by decide) (fun hq11 => ?_) (fun hq11 => ?_)
      · replace hf := jm_ift hf hq11
        refine jw_iinc (v := x5 + (-1)) C 3 dX6_fire_102 hl rfl (by rfl) (by decide) rfl (fun ls hl => ?_)
        refine lv_goto (tgt := 67) C.1 C.2.1 dX6_fire_105 (by decide) ?_
        exact ih h0 x1 x2 (x5 + (-1)) hf hJ hS (hl.sub [1, 2, 3, 0] rfl)
      · replace hf := jm_iff hf hq11
        refine jw_aload_n C dX6_fire_92 rfl (hl.at 0 rfl) ?_
        obtain ⟨v12, h12, hf⟩ := jm_rd_ok hf
        refine jw_gR (Cn := RX6) (T := TX6) (N := 1) C hJ h12 rfl inX6_fire_X6 (by decide) (jm_w C 1 rfl) (fun _ h => h) dX6_fire_93 ?_
        refine lv_iload C.1 C.2.1 dX6_fire_96 (hl.at 3 rfl) ?_
        obtain ⟨a13, o13, hf⟩ := jm_rd_ok hf
        obtain ⟨v13, S13, h13, hf⟩ := jm_bd_ok hf
        refine jw_cV (q := (RJx4a65c, TJx4a65c, 3)) C hJ hS o13 rfl (cJx4a65c_remove_915e3_C l G a13 x5 h13) (cwV 1 C.2.2.2.2.1 gX6_fire_Jx4a65c_remove_915e3 rfl rfl rfl (by decide +kernel) ⟨Nat.le_of_ble_eq_true rfl, Nat.le_of_ble_eq_true rfl⟩) rfl hl.1 rfl (Nat.le_of_ble_eq_true rfl) dX6_fire_98 ⟨Nat.le_refl _, Nat.le_refl _⟩ (fun H locs hJ hS => ?_)
        refine lv_pop C.1 C.2.1 dX6_fire_101 (jm_catr _) ?_
        refine jw_iinc (v := x5 + (-1)) C 3 dX6_fire_102 hl rfl (by rfl) (by decide) rfl (fun ls hl => ?_)
        refine lv_goto (tgt := 67) C.1 C.2.1 dX6_fire_105 (by decide) ?_
        exact ih h0 x1 x2 (x5 + (-1)) hf hJ hS (hl.sub [1, 2, 3, 0] rfl)
theorem inX6_fire_X5 : ∀ w ∈ wsX50, w ∈ wsX6_fire := fun _ h => List.mem_cons_of_mem _ (List.mem_append_left _ (List.mem_append_left _ (List.mem_append_right _ h)))
theorem moX6_fire_3 : ∀ (n : Nat) (h0 : Nat) (x1 : Int32) (x2 : Int32) (x3 : Int32) (x4 : Int32) (x5 : Int32), jm_Mo (fX6_fire_3 n h0 x1 x2 x3 x4 x5) := by
  intro n
  induction n with
  | zero =>
    intro h0 x1 x2 x3 x4 x5
    rw [fX6_fire_3]
    exact jm_Mo_no
  | succ n ih =>
    intro h0 x1 x2 x3 x4 x5
    rw [fX6_fire_3]
    exact jm_Mo_rd (fun _ => jm_Mo_rd (fun _ => jm_Mo_bd (moJx4a65c_size_8abf5 _) (fun _ => jm_Mo_if (jm_Mo_rd (fun _ => jm_Mo_rd (fun _ => jm_Mo_bd (moJx4a65c_size_8abf5 _) (fun _ => moX6_fire_67 _ _ _ _ _)))) (jm_Mo_rd (fun _ => jm_Mo_rd (fun _ => jm_Mo_bd (moJx4a65c_get_915e3 _ _) (fun _ => jm_Mo_rd (fun _ => jm_Mo_rd (fun _ => jm_Mo_bd (moX5_isFor _ _ _) (fun _ => jm_Mo_if (ih _ _ _ _ _ _) (jm_Mo_rd (fun _ => jm_Mo_rd (fun _ => jm_Mo_bd (moX2_addEvent _ _ _) (fun _ => ih _ _ _ _ _ _))))))))))))))
set_option maxHeartbeats 4000000 in
set_option maxRecDepth 100000 in
theorem kX6_fire_3 {rv : Unit} {Sf : jm_S} (C : jm_C G cX6_fire 7 RX6 wsX6_fire (none) p s m args meth c) : ∀ (n : Nat) (h0 : Nat) (x1 : Int32) (x2 : Int32) (x3 : Int32) (x4 : Int32) (x5 : Int32) {S : jm_S} {H : Heap} {locs : List Loc} {ls : Array Slot}, fX6_fire_3 n h0 x1 x2 x3 x4 x5 S = some (rv, Sf) → jm_J G S H → va_S (jm_A G) s.heap H locs → jm_L ls 7 [(0, .inr (some h0)), (1, .inl x1), (2, .inl x2), (3, .inl x3), (4, .inl x4), (5, .inl x5)] → W p l e ({ frames := 3, cells := 0, slots := 0, locals := 86 } : Room) s m args below meth c H locs 0 0 (MQ below (jm_Q G (none) Sf) args s 0 0 (jm_A G)) (F0 m 3 ls []) := by
  intro n
  induction n with
  | zero =>
    intro h0 x1 x2 x3 x4 x5 S H locs ls hf
    rw [fX6_fire_3] at hf
    exact absurd hf (fun h => jm_no_ok h)
  | succ n ih =>
    intro h0 x1 x2 x3 x4 x5 S H locs ls hf hJ hS hl
    rw [fX6_fire_3] at hf
    refine lv_iload C.1 C.2.1 dX6_fire_3 (hl.at 5 rfl) ?_
    refine jw_aload_n C dX6_fire_5 rfl (hl.at 0 rfl) ?_
    obtain ⟨v1, h1, hf⟩ := jm_rd_ok hf
    refine jw_gR (Cn := RX6) (T := TX6) (N := 1) C hJ h1 rfl inX6_fire_X6 (by decide) (jm_w C 1 rfl) (fun _ h => h) dX6_fire_6 ?_
    obtain ⟨a2, o2, hf⟩ := jm_rd_ok hf
    obtain ⟨v2, S2, h2, hf⟩ := jm_bd_ok hf
    refine jw_cV (q := (RJx4a65c, TJx4a65c, 3)) C hJ hS o2 rfl (cJx4a65c_size_8abf5_C l G a2 h2) (cwV 0 C.2.2.2.2.1 gX6_fire_Jx4a65c_size_8abf5 rfl rfl rfl (by decide +kernel) ⟨Nat.le_of_ble_eq_true rfl, Nat.le_of_ble_eq_true rfl⟩) rfl hl.1 rfl (Nat.le_of_ble_eq_true rfl) dX6_fire_9 ⟨Nat.le_refl _, Nat.le_refl _⟩ (fun H locs hJ hS => ?_)
    refine lv_icmp_ge (tgt := 56) C.1 C.2.1 dX6_fire_12 (by decide) (fun hq3 => ?_) (fun hq3 => ?_)
    · replace hf := jm_ift hf hq3
      refine jw_aload_n C dX6_fire_56 rfl (hl.at 0 rfl) ?_
      obtain ⟨v4, h4, hf⟩ := jm_rd_ok hf
      refine jw_gR (Cn := RX6) (T := TX6) (N := 1) C hJ h4 rfl inX6_fire_X6 (by decide) (jm_w C 1 rfl) (fun _ h => h) dX6_fire_57 ?_
      obtain ⟨a5, o5, hf⟩ := jm_rd_ok hf
      obtain ⟨v5, S5, h5, hf⟩ := jm_bd_ok hf
      refine jw_cV (q := (RJx4a65c, TJx4a65c, 3)) C hJ hS o5 rfl (cJx4a65c_size_8abf5_C l G a5 h5) (cwV 0 C.2.2.2.2.1 gX6_fire_Jx4a65c_size_8abf5 rfl rfl rfl (by decide +kernel) ⟨Nat.le_of_ble_eq_true rfl, Nat.le_of_ble_eq_true rfl⟩) rfl hl.1 rfl (Nat.le_of_ble_eq_true rfl) dX6_fire_60 ⟨Nat.le_refl _, Nat.le_refl _⟩ (fun H locs hJ hS => ?_)
      refine lv_iconst (v := 1) C.1 C.2.1 dX6_fire_63 (by decide) ?_
      refine lv_isub C.1 C.2.1 dX6_fire_64 ?_
      refine jw_istore C dX6_fire_65 hl (by decide) rfl (fun ls hl => ?_)
      exact kX6_fire_67 C 4096 h0 x1 x2 (v5 - 1) hf hJ hS (hl.sub [1, 2, 3, 0] rfl)
    · replace hf := jm_iff hf hq3
      refine jw_aload_n C dX6_fire_15 rfl (hl.at 0 rfl) ?_
      obtain ⟨v14, h14, hf⟩ := jm_rd_ok hf
      refine jw_gR (Cn := RX6) (T := TX6) (N := 1) C hJ h14 rfl inX6_fire_X6 (by decide) (jm_w C 1 rfl) (fun _ h => h) dX6_fire_16 ?_
      refine lv_iload C.1 C.2.1 dX6_fire_19 (hl.at 5 rfl) ?_
      obtain ⟨a15, o15, hf⟩ := jm_rd_ok hf
      obtain ⟨v15, S15, h15, hf⟩ := jm_bd_ok hf
      refine jw_cV (q := (RJx4a65c, TJx4a65c, 3)) C hJ hS o15 rfl (cJx4a65c_get_915e3_C l G a15 x5 h15) (cwV 1 C.2.2.2.2.1 gX6_fire_Jx4a65c_get_915e3 rfl rfl rfl (by decide +kernel) ⟨Nat.le_of_ble_eq_true rfl, Nat.le_of_ble_eq_true rfl⟩) rfl hl.1 rfl (Nat.le_of_ble_eq_true rfl) dX6_fire_21 ⟨Nat.le_refl _, Nat.le_refl _⟩ (fun H locs hJ hS => ?_)
      obtain ⟨u16, h16, hf⟩ := jm_rd_ok hf
      refine jw_ck (q := (RX5, TX5, 3)) C hJ h16 rfl (jm_w C 2 rfl) dX6_fire_24 ?_
      refine jw_astore C dX6_fire_27 hl (by decide) rfl (fun ls hl => ?_)
      refine jw_aload C dX6_fire_29 (hl.at 0 rfl) ?_
      refine lv_iload_n C.1 C.2.1 dX6_fire_31 rfl (hl.at 2 rfl) ?_
      refine lv_iload_n C.1 C.2.1 dX6_fire_32 rfl (hl.at 3 rfl) ?_
      obtain ⟨a17, o17, hf⟩ := jm_rd_ok hf
      obtain ⟨v17, S17, h17, hf⟩ := jm_bd_ok hf
      refine jw_cV (q := (RX5, TX5, 3)) C hJ hS o17 rfl (cX5_isFor_C l G a17 x1 x2 h17) (cwV 2 C.2.2.2.2.1 gX6_fire_X5_isFor rfl rfl rfl (by decide +kernel) ⟨Nat.le_of_ble_eq_true rfl, Nat.le_of_ble_eq_true rfl⟩) rfl hl.1 rfl (Nat.le_of_ble_eq_true rfl) dX6_fire_33 ⟨Nat.le_refl _, Nat.le_refl _⟩ (fun H locs hJ hS => ?_)
      refine lv_if_eq (tgt := 50) C.1 C.2.1 dX6_fire_36 (by decide) (fun hq18 => ?_) (fun hq18 => ?_)
      · replace hf := jm_ift hf hq18
        refine jw_iinc (v := x5 + 1) C 6 dX6_fire_50 hl rfl (by rfl) (by decide) rfl (fun ls hl => ?_)
        refine lv_goto (tgt := 3) C.1 C.2.1 dX6_fire_53 (by decide) ?_
        exact ih h0 x1 x2 x3 x4 (x5 + 1) hf hJ hS (hl.sub [2, 3, 4, 5, 6, 0] rfl)
      · replace hf := jm_iff hf hq18
        refine jw_aload C dX6_fire_39 (hl.at 0 rfl) ?_
        obtain ⟨v19, h19, hf⟩ := jm_rd_ok hf
        refine jw_gR (Cn := RX5) (T := TX5) (N := 3) C hJ h19 rfl inX6_fire_X5 (by decide) (jm_w C 3 rfl) (fun _ h => h) dX6_fire_41 ?_
        refine lv_iload_n C.1 C.2.1 dX6_fire_44 rfl (hl.at 4 rfl) ?_
        refine lv_iload C.1 C.2.1 dX6_fire_45 (hl.at 5 rfl) ?_
        obtain ⟨a20, o20, hf⟩ := jm_rd_ok hf
        obtain ⟨v20, S20, h20, hf⟩ := jm_bd_ok hf
        refine jw_cV (q := (RX2, TX2, 3)) C hJ hS o20 rfl (cX2_addEvent_C l G a20 x3 x4 h20) (cwV 2 C.2.2.2.2.1 gX6_fire_X2_addEvent rfl rfl rfl (by decide +kernel) ⟨Nat.le_of_ble_eq_true rfl, Nat.le_of_ble_eq_true rfl⟩) rfl hl.1 rfl (Nat.le_of_ble_eq_true rfl) dX6_fire_47 ⟨Nat.le_refl _, Nat.le_refl _⟩ (fun H locs hJ hS => ?_)
        refine jw_iinc (v := x5 + 1) C 6 dX6_fire_50 hl rfl (by rfl) (by decide) rfl (fun ls hl => ?_)
        refine lv_goto (tgt := 3) C.1 C.2.1 dX6_fire_53 (by decide) ?_
        exact ih h0 x1 x2 x3 x4 (x5 + 1) hf hJ hS (hl.sub [2, 3, 4, 5, 6, 0] rfl)
theorem moX6_fire (h0 : Nat) (x1 : Int32) (x2 : Int32) (x3 : Int32) (x4 : Int32) : jm_Mo (fX6_fire h0 x1 x2 x3 x4) := by
  unfold fX6_fire
  exact moX6_fire_3 _ _ _ _ _ _ _
set_option maxHeartbeats 4000000 in
set_option maxRecDepth 100000 in
theorem kX6_fire {rv : Unit} {Sf : jm_S} (C : jm_C G cX6_fire 7 RX6 wsX6_fire (none) p s m args meth c) : ∀ (h0 : Nat) (x1 : Int32) (x2 : Int32) (x3 : Int32) (x4 : Int32) {S : jm_S} {H : Heap} {locs : List Loc} {ls : Array Slot}, fX6_fire h0 x1 x2 x3 x4 S = some (rv, Sf) → jm_J G S H → va_S (jm_A G) s.heap H locs → jm_L ls 7 [(0, .inr (some h0)), (1, .inl x1), (2, .inl x2), (3, .inl x3), (4, .inl x4)] → W p l e ({ frames := 3, cells := 0, slots := 0, locals := 86 } : Room) s m args below meth c H locs 0 0 (MQ below (jm_Q G (none) Sf) args s 0 0 (jm_A G)) (F0 m 0 ls []) := by
  intro h0 x1 x2 x3 x4 S H locs ls hf hJ hS hl
  unfold fX6_fire at hf
  refine lv_iconst (v := 0) C.1 C.2.1 dX6_fire_0 (by decide) ?_
  refine jw_istore C dX6_fire_1 hl (by decide) rfl (fun ls hl => ?_)
  exact kX6_fire_3 C 4096 h0 x1 x2 x3 x4 0 hf hJ hS (hl.sub [1, 2, 3, 4, 5, 0] rfl)
set_option maxHeartbeats 4000000 in
set_option maxRecDepth 100000 in
theorem cX6_fire_C (l : Launch) (G : jm_G) (h0 : Nat) (x1 : Int32) (x2 : Int32) (x3 : Int32) (x4 : Int32) {S Sf : jm_S} {rv : Unit} (hf : fX6_fire h0 x1 x2 x3 x4 S = some (rv, Sf)) : Met l yX6_fire wsX6_fire ({ frames := 3, cells := 0, slots := 0, locals := 86 } : Room) (jm_Pc G S [.ref h0, .int x1, .int x2, .int x3, .int x4]) (jm_Q G (none) Sf) 0 0 (jm_A G) := by
  refine Met.ofW (cc := cX6_fire) (maxL := 7) (ret := none) (by decide) rfl ?_
  intro p e s m args below meth c s₁ B hml hv
  obtain ⟨rfl, hJ, hX⟩ := hv
  have C : jm_C G cX6_fire 7 RX6 wsX6_fire (none) p s m _ meth c := ⟨B.exec, B.bytes, hml, findClass_of_methodNamed B.named, atoms_spec (ws := wsX6_fire) B.pre, B.returns, B.notSynchronized, hX⟩
  obtain ⟨ls, he, hl⟩ := jm_entry m [.inr (some h0), .inl x1, .inl x2, .inl x3, .inl x4] (n := 7) (Nat.le_of_ble_eq_true rfl)
  have he : entryFrame m ([.ref h0, .int x1, .int x2, .int x3, .int x4] : List Value).toArray 7 = F0 m 0 ls [] := he
  rw [he]
  exact kX6_fire C h0 x1 x2 x3 x4 hf hJ va_S.rf (hl.sub [0, 1, 2, 3, 4] rfl)
end JG
