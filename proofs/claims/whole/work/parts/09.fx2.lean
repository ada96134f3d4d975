section JG
variable {p : Program} {l : Launch} {e : Env} {s : State} {m : MethodId} {args : Array Value} {below : List Frame} {meth : Method} {c : Code} {G : jm_G}
/-! CoordinationService$Tree.addNode -/
def fX4_addNode (h0 : Nat) (x1 : Option Nat) (x2 : Option Nat) : jm_P Unit := jm_rd (jm_o (some h0) 5) fun a1 => jm_bd (fX4_find a1 (-1)) fun v1 => (if v1 = none then jm_ret () else jm_rd (jm_gI x1 4 2) fun v3 => jm_wr (jm_p v1 1 0 (.inl v3)) <| jm_rd (jm_gI x1 4 3) fun v5 => jm_wr (jm_p v1 1 1 (.inl v5)) <| jm_wr (jm_p v1 1 2 (.inl 0)) <| jm_rd (jm_gI x1 4 4) fun v8 => jm_wr (jm_p v1 1 3 (.inl v8)) <| jm_rd (jm_gI (some h0) 5 0) fun v10 => jm_rd (jm_gI v1 1 0) fun v11 => jm_rd (jm_gI x1 4 0) fun v12 => jm_rd (jm_o x2 7) fun a13 => jm_bd (fX6_fire a13 v10 v11 0 v12) fun _ => jm_ret ())
theorem inX4_addNode_X3 : ∀ w ∈ wsX30, w ∈ wsX4_addNode := fun _ h => List.mem_cons_of_mem _ (List.mem_append_left _ (List.mem_append_left _ (List.mem_append_left _ (List.mem_append_left _ (List.mem_append_left _ (List.mem_append_left _ (List.mem_append_right _ h)))))))
theorem inX4_addNode_X0 : ∀ w ∈ wsX00, w ∈ wsX4_addNode := fun _ h => List.mem_cons_of_mem _ (List.mem_append_left _ (List.mem_append_left _ (List.mem_append_left _ (List.mem_append_left _ (List.mem_append_left _ (List.mem_append_right _ h))))))
theorem inX4_addNode_X4 : ∀ w ∈ wsX40, w ∈ wsX4_addNode := fun _ h => List.mem_cons_of_mem _ (List.mem_append_left _ (List.mem_append_left _ (List.mem_append_left _ (List.mem_append_left _ (List.mem_append_right _ h)))))
theorem moX4_addNode (h0 : Nat) (x1 : Option Nat) (x2 : Option Nat) : jm_Mo (fX4_addNode h0 x1 x2) := by
  unfold fX4_addNode
  exact jm_Mo_rd (fun _ => jm_Mo_bd (moX4_find _ _) (fun _ => jm_Mo_if (jm_Mo_ret _) (jm_Mo_rd (fun _ => jm_Mo_wr jm_p_st (jm_Mo_rd (fun _ => jm_Mo_wr jm_p_st (jm_Mo_wr jm_p_st (jm_Mo_rd (fun _ => jm_Mo_wr jm_p_st (jm_Mo_rd (fun _ => jm_Mo_rd (fun _ => jm_Mo_rd (fun _ => jm_Mo_rd (fun _ => jm_Mo_bd (moX6_fire _ _ _ _ _) (fun _ => jm_Mo_ret _)))))))))))))))
set_option maxHeartbeats 4000000 in
set_option maxRecDepth 100000 in
theorem kX4_addNode {rv : Unit} {Sf : jm_S} (C : jm_C G cX4_addNode 4 RX4 wsX4_addNode (none) p s m args meth c) : ∀ (h0 : Nat) (x1 : Option Nat) (x2 : Option Nat) {S : jm_S} {H : Heap} {locs : List Loc} {ls : Array Slot}, fX4_addNode h0 x1 x2 S = some (rv, Sf) → jm_J G S H → va_S (jm_A G) s.heap H locs → jm_L ls 4 [(0, .inr (some h0)), (1, .inr x1), (2, .inr x2)] → W p l e ({ frames := 4, cells := 0, slots := 0, locals := 112 } : Room) s m args below meth c H locs 0 0 (MQ below (jm_Q G (none) Sf) args s 0 0 (jm_A G)) (F0 m 0 ls []) := by
  intro h0 x1 x2 S H locs ls hf hJ hS hl
  unfold fX4_addNode at hf
  refine jw_aload_n C dX4_addNode_0 rfl (hl.at 0 rfl) ?_
  refine lv_iconst (v := (-1)) C.1 C.2.1 dX4_addNode_1 (by decide) ?_
  obtain ⟨a1, o1, hf⟩ := jm_rd_ok hf
  obtain ⟨v1, S1, h1, hf⟩ := jm_bd_ok hf
  refine jw_cV (q := (RX4, TX4, 2)) C hJ hS o1 rfl (cX4_find_C l G a1 (-1) h1) (cwV 1 C.2.2.2.2.1 gX4_addNode_X4_find rfl rfl rfl (by decide +kernel) ⟨Nat.le_of_ble_eq_true rfl, Nat.le_of_ble_eq_true rfl⟩) rfl hl.1 rfl (Nat.le_of_ble_eq_true rfl) dX4_addNode_2 ⟨Nat.le_refl _, Nat.le_refl _⟩ (fun H locs hJ hS => ?_)
  refine jw_astore_n C dX4_addNode_5 rfl hl (by decide) rfl (fun ls hl => ?_)
  refine jw_aload_n C dX4_addNode_6 rfl (hl.at 0 rfl) ?_
  refine jw_ifnonnull (tgt := 11) C dX4_addNode_7 (by decide) (fun hq2 => ?_) (fun hq2 => ?_)
  · replace hf := jm_iff hf hq2
    refine jw_aload_n C dX4_addNode_11 rfl (hl.at 0 rfl) ?_
    refine jw_aload_n C dX4_addNode_12 rfl (hl.at 2 rfl) ?_
    obtain ⟨v3, h3, hf⟩ := jm_rd_ok hf
    refine jw_gI (Cn := RX3) (T := TX3) (N := 5) C hJ h3 rfl inX4_addNode_X3 (by decide) (jm_w C 1 rfl) (fun _ h => h) dX4_addNode_13 ?_
    obtain ⟨S4, h4, hf⟩ := jm_wr_ok hf
    refine jw_p (x := .inl v3) (ty := .int) (Cn := RX0) (T := TX0) (N := 4) C hJ hS h4 rfl inX4_addNode_X0 tyX0 tyX0_ok nmX0 (by decide) (jm_w C 2 rfl) (fun _ h => h) rfl (by decide +kernel) rfl rfl dX4_addNode_16 (fun H locs hJ hS => ?_)
    refine jw_aload_n C dX4_addNode_19 rfl (hl.at 0 rfl) ?_
    refine jw_aload_n C dX4_addNode_20 rfl (hl.at 2 rfl) ?_
    obtain ⟨v5, h5, hf⟩ := jm_rd_ok hf
    refine jw_gI (Cn := RX3) (T := TX3) (N := 5) C hJ h5 rfl inX4_addNode_X3 (by decide) (jm_w C 3 rfl) (fun _ h => h) dX4_addNode_21 ?_
    obtain ⟨S6, h6, hf⟩ := jm_wr_ok hf
    refine jw_p (x := .inl v5) (ty := .int) (Cn := RX0) (T := TX0) (N := 4) C hJ hS h6 rfl inX4_addNode_X0 tyX0 tyX0_ok nmX0 (by decide) (jm_w C 4 rfl) (fun _ h => h) rfl (by decide +kernel) rfl rfl dX4_addNode_24 (fun H locs hJ hS => ?_)
    refine jw_aload_n C dX4_addNode_27 rfl (hl.at 0 rfl) ?_
    refine lv_iconst (v := 0) C.1 C.2.1 dX4_addNode_28 (by decide) ?_
    obtain ⟨S7, h7, hf⟩ := jm_wr_ok hf
    refine jw_p (x := .inl 0) (ty := .int) (Cn := RX0) (T := TX0) (N := 4) C hJ hS h7 rfl inX4_addNode_X0 tyX0 tyX0_ok nmX0 (by decide) (jm_w C 5 rfl) (fun _ h => h) rfl (by decide +kernel) rfl rfl dX4_addNode_29 (fun H locs hJ hS => ?_)
    refine jw_aload_n C dX4_addNode_32 rfl (hl.at 0 rfl) ?_
    refine jw_aload_n C dX4_addNode_33 rfl (hl.at 2 rfl) ?_
    obtain ⟨v8, h8, hf⟩ := jm_rd_ok hf
    refine jw_gI (Cn := RX3) (T := TX3) (N := 5) C hJ h8 rfl inX4_addNode_X3 (by decide) (jm_w C 6 rfl) (fun _ h => h) dX4_addNode_34 ?_
    obtain ⟨S9, h9, hf⟩ := jm_wr_ok hf
    refine jw_p (x := .inl v8) (ty := .int) (Cn := RX0) (T := TX0) (N := 4) C hJ hS h9 rfl inX4_addNode_X0 tyX0 tyX0_ok nmX0 (by decide) (jm_w C 7 rfl) (fun _ h => h) rfl (by decide +kernel) rfl rfl dX4_addNode_37 (fun H locs hJ hS => ?_)
    refine jw_aload_n C dX4_addNode_40 rfl (hl.at 3 rfl) ?_
    refine jw_aload_n C dX4_addNode_41 rfl (hl.at 1 rfl) ?_
    obtain ⟨v10, h10, hf⟩ := jm_rd_ok hf
    refine jw_gI (Cn := RX4) (T := TX4) (N := 2) C hJ h10 rfl inX4_addNode_X4 (by decide) (jm_w C 8 rfl) (fun _ h => h) dX4_addNode_42 ?_
    refine jw_aload_n C dX4_addNode_45 rfl (hl.at 0 rfl) ?_
    obtain ⟨v11, h11, hf⟩ := jm_rd_ok hf
    refine jw_gI (Cn := RX0) (T := TX0) (N := 4) C hJ h11 rfl inX4_addNode_X0 (by decide) (jm_w C 2 rfl) (fun _ h => h) dX4_addNode_46 ?_
    refine lv_iconst (v := 0) C.1 C.2.1 dX4_addNode_49 (by decide) ?_
    refine jw_aload_n C dX4_addNode_50 rfl (hl.at 2 rfl) ?_
    obtain ⟨v12, h12, hf⟩ := jm_rd_ok hf
    refine jw_gI (Cn := RX3) (T := TX3) (N := 5) C hJ h12 rfl inX4_addNode_X3 (by decide) (jm_w C 9 rfl) (fun _ h => h) dX4_addNode_51 ?_
    obtain ⟨a13, o13, hf⟩ := jm_rd_ok hf
    obtain ⟨v13, S13, h13, hf⟩ := jm_bd_ok hf
    refine jw_cV (q := (RX6, TX6, 1)) C hJ hS o13 rfl (cX6_fire_C l G a13 v10 v11 0 v12 h13) (cwV 4 C.2.2.2.2.1 gX4_addNode_X6_fire rfl rfl rfl (by decide +kernel) ⟨Nat.le_of_ble_eq_true rfl, Nat.le_of_ble_eq_true rfl⟩) rfl hl.1 rfl (Nat.le_of_ble_eq_true rfl) dX4_addNode_54 ⟨Nat.le_refl _, Nat.le_refl _⟩ (fun H locs hJ hS => ?_)
    obtain ⟨rfl, rfl⟩ := jm_ret_ok hf
    exact jw_rv C hJ hS (Nat.le_refl _) (Nat.le_refl _) dX4_addNode_57
  · replace hf := jm_ift hf hq2
    obtain ⟨rfl, rfl⟩ := jm_ret_ok hf
    exact jw_rv C hJ hS (Nat.le_refl _) (Nat.le_refl _) dX4_addNode_10
set_option maxHeartbeats 4000000 in
set_option maxRecDepth 100000 in
theorem cX4_addNode_C (l : Launch) (G : jm_G) (h0 : Nat) (x1 : Option Nat) (x2 : Option Nat) {S Sf : jm_S} {rv : Unit} (hf : fX4_addNode h0 x1 x2 S = some (rv, Sf)) : Met l yX4_addNode wsX4_addNode ({ frames := 4, cells := 0, slots := 0, locals := 112 } : Room) (jm_Pc G S [.ref h0, va_rf x1, va_rf x2]) (jm_Q G (none) Sf) 0 0 (jm_A G) := by
  refine Met.ofW (cc := cX4_addNode) (maxL := 4) (ret := none) (by decide) rfl ?_
  intro p e s m args below meth c s₁ B hml hv
  obtain ⟨rfl, hJ, hX⟩ := hv
  have C : jm_C G cX4_addNode 4 RX4 wsX4_addNode (none) p s m _ meth c := ⟨B.exec, B.bytes, hml, findClass_of_methodNamed B.named, atoms_spec (ws := wsX4_addNode) B.pre, B.returns, B.notSynchronized, hX⟩
  obtain ⟨ls, he, hl⟩ := jm_entry m [.inr (some h0), .inr x1, .inr x2] (n := 4) (Nat.le_of_ble_eq_true rfl)
  have he : entryFrame m ([.ref h0, va_rf x1, va_rf x2] : List Value).toArray 4 = F0 m 0 ls [] := he
  rw [he]
  exact kX4_addNode C h0 x1 x2 hf hJ va_S.rf (hl.sub [0, 1, 2] rfl)
/-! CoordinationService$Tree.changeNode -/
def fX4_changeNode (h0 : Nat) (x1 : Option Nat) (x2 : Option Nat) : jm_P Unit := jm_rd (jm_gI x1 4 2) fun v1 => jm_rd (jm_o (some h0) 5) fun a2 => jm_bd (fX4_find a2 v1) fun v2 => (if v2 = none then jm_ret () else jm_rd (jm_gI x1 4 3) fun v4 => jm_wr (jm_p v2 1 1 (.inl v4)) <| jm_rd (jm_gI v2 1 2) fun v6 => jm_wr (jm_p v2 1 2 (.inl (v6 + 1))) <| jm_rd (jm_gI (some h0) 5 0) fun v8 => jm_rd (jm_gI v2 1 0) fun v9 => jm_rd (jm_gI x1 4 0) fun v10 => jm_rd (jm_o x2 7) fun a11 => jm_bd (fX6_fire a11 v8 v9 1 v10) fun _ => jm_ret ())
theorem inX4_changeNode_X3 : ∀ w ∈ wsX30, w ∈ wsX4_changeNode := fun _ h => List.mem_cons_of_mem _ (List.mem_append_left _ (List.mem_append_left _ (List.mem_append_left _ (List.mem_append_left _ (List.mem_append_left _ (List.mem_append_left _ (List.mem_append_right _ h)))))))
theorem inX4_changeNode_X0 : ∀ w ∈ wsX00, w ∈ wsX4_changeNode := fun _ h => List.mem_cons_of_mem _ (List.mem_append_left _ (List.mem_append_left _ (List.mem_append_left _ (List.mem_append_left _ (List.mem_append_left _ (List.mem_append_right _ h))))))
theorem inX4_changeNode_X4 : ∀ w ∈ wsX40, w ∈ wsX4_changeNode := fun _ h => List.mem_cons_of_mem _ (List.mem_append_left _ (List.mem_append_left _ (List.mem_append_left _ (List.mem_append_left _ (List.mem_append_right _ h)))))
theorem moX4_changeNode (h0 : Nat) (x1 : Option Nat) (x2 : Option Nat) : jm_Mo (fX4_changeNode h0 x1 x2) := by
  unfold fX4_changeNode
  exact jm_Mo_rd (fun _ => jm_Mo_rd (fun _ => jm_Mo_bd (moX4_find _ _) (fun _ => jm_Mo_if (jm_Mo_ret _) (jm_Mo_rd (fun _ => jm_Mo_wr jm_p_st (jm_Mo_rd (fun _ => jm_Mo_wr jm_p_st (jm_Mo_rd (fun _ => jm_Mo_rd (fun _ => jm_Mo_rd (fun _ => jm_Mo_rd (fun _ => jm_Mo_bd (moX6_fire _ _ _ _ _) (fun _ => jm_Mo_ret _)))))))))))))
set_option maxHeartbeats 4000000 in
set_option maxRecDepth 100000 in
theorem kX4_changeNode {rv : Unit} {Sf : jm_S} (C : jm_C G cX4_changeNode 4 RX4 wsX4_changeNode (none) p s m args meth c) : ∀ (h0 : Nat) (x1 : Option Nat) (x2 : Option Nat) {S : jm_S} {H : Heap} {locs : List Loc} {ls : Array Slot}, fX4_changeNode h0 x1 x2 S = some (rv, Sf) → jm_J G S H → va_S (jm_A G) s.heap H locs → jm_L ls 4 [(0, .inr (some h0)), (1, .inr x1), (2, .inr x2)] → W p l e ({ frames := 4, cells := 0, slots := 0, locals := 112 } : Room) s m args below meth c H locs 0 0 (MQ below (jm_Q G (none) Sf) args s 0 0 (jm_A G)) (F0 m 0 ls []) := by
  intro h0 x1 x2 S H locs ls hf hJ hS hl
  unfold fX4_changeNode at hf
  refine jw_aload_n C dX4_changeNode_0 rfl (hl.at 0 rfl) ?_
  refine jw_aload_n C dX4_changeNode_1 rfl (hl.at 1 rfl) ?_
  obtain ⟨v1, h1, hf⟩ := jm_rd_ok hf
  refine jw_gI (Cn := RX3) (T := TX3) (N := 5) C hJ h1 rfl inX4_changeNode_X3 (by decide) (jm_w C 1 rfl) (fun _ h => h) dX4_changeNode_2 ?_
  obtain ⟨a2, o2, hf⟩ := jm_rd_ok hf
  obtain ⟨v2, S2, h2, hf⟩ := jm_bd_ok hf
  refine jw_cV (q := (RX4, TX4, 2)) C hJ hS o2 rfl (cX4_find_C l G a2 v1 h2) (cwV 1 C.2.2.2.2.1 gX4_changeNode_X4_find rfl rfl rfl (by decide +kernel) ⟨Nat.le_of_ble_eq_true rfl, Nat.le_of_ble_eq_true rfl⟩) rfl hl.1 rfl (Nat.le_of_ble_eq_true rfl) dX4_changeNode_5 ⟨Nat.le_refl _, Nat.le_refl _⟩ (fun H locs hJ hS => ?_)
  refine jw_astore_n C dX4_changeNode_8 rfl hl (by decide) rfl (fun ls hl => ?_)
  refine jw_aload_n C dX4_changeNode_9 rfl (hl.at 0 rfl) ?_
  refine jw_ifnonnull (tgt := 14) C dX4_changeNode_10 (by decide) (fun hq3 => ?_) (fun hq3 => ?_)
  · replace hf := jm_iff hf hq3
    refine jw_aload_n C dX4_changeNode_14 rfl (hl.at 0 rfl) ?_
    refine jw_aload_n C dX4_changeNode_15 rfl (hl.at 2 rfl) ?_
    obtain ⟨v4, h4, hf⟩ := jm_rd_ok hf
    refine jw_gI (Cn := RX3) (T := TX3) (N := 5) C hJ h4 rfl inX4_changeNode_X3 (by decide) (jm_w C 2 rfl) (fun _ h => h) dX4_changeNode_16 ?_
    obtain ⟨S5, h5, hf⟩ := jm_wr_ok hf
    refine jw_p (x := .inl v4) (ty := .int) (Cn := RX0) (T := TX0) (N := 4) C hJ hS h5 rfl inX4_changeNode_X0 tyX0 tyX0_ok nmX0 (by decide) (jm_w C 3 rfl) (fun _ h => h) rfl (by decide +kernel) rfl rfl dX4_changeNode_19 (fun H locs hJ hS => ?_)
    refine jw_aload_n C dX4_changeNode_22 rfl (hl.at 0 rfl) ?_
    refine lv_dup C.1 C.2.1 dX4_changeNode_23 (jm_catr _) ?_
    obtain ⟨v6, h6, hf⟩ := jm_rd_ok hf
    refine jw_gI (Cn := RX0) (T := TX0) (N := 4) C hJ h6 rfl inX4_changeNode_X0 (by decide) (jm_w C 4 rfl) (fun _ h => h) dX4_changeNode_24 ?_
    refine lv_iconst (v := 1) C.1 C.2.1 dX4_changeNode_27 (by decide) ?_
    refine lv_iadd C.1 C.2.1 dX4_changeNode_28 ?_
    obtain ⟨S7, h7, hf⟩ := jm_wr_ok hf
    refine jw_p (x := .inl (v6 + 1)) (ty := .int) (Cn := RX0) (T := TX0) (N := 4) C hJ hS h7 rfl inX4_changeNode_X0 tyX0 tyX0_ok nmX0 (by decide) (jm_w C 4 rfl) (fun _ h => h) rfl (by decide +kernel) rfl rfl dX4_changeNode_29 (fun H locs hJ hS => ?_)
    refine jw_aload_n C dX4_changeNode_32 rfl (hl.at 3 rfl) ?_
    refine jw_aload_n C dX4_changeNode_33 rfl (hl.at 1 rfl) ?_
    obtain ⟨v8, h8, hf⟩ := jm_rd_ok hf
    refine jw_gI (Cn := RX4) (T := TX4) (N := 2) C hJ h8 rfl inX4_changeNode_X4 (by decide) (jm_w C 5 rfl) (fun _ h => h) dX4_changeNode_34 ?_
    refine jw_aload_n C dX4_changeNode_37 rfl (hl.at 0 rfl) ?_
    obtain ⟨v9, h9, hf⟩ := jm_rd_ok hf
    refine jw_gI (Cn := RX0) (T := TX0) (N := 4) C hJ h9 rfl inX4_changeNode_X0 (by decide) (jm_w C 6 rfl) (fun _ h => h) dX4_changeNode_38 ?_
    refine lv_iconst (v := 1) C.1 C.2.1 dX4_changeNode_41 (by decide) ?_
    refine jw_aload_n C dX4_changeNode_42 rfl (hl.at 2 rfl) ?_
    obtain ⟨v10, h10, hf⟩ := jm_rd_ok hf
    refine jw_gI (Cn := RX3) (T := TX3) (N := 5) C hJ h10 rfl inX4_changeNode_X3 (by decide) (jm_w C 7 rfl) (fun _ h => h) dX4_changeNode_43 ?_
    obtain ⟨a11, o11, hf⟩ := jm_rd_ok hf
    obtain ⟨v11, S11, h11, hf⟩ := jm_bd_ok hf
    refine jw_cV (q := (RX6, TX6, 1)) C hJ hS o11 rfl (cX6_fire_C l G a11 v8 v9 1 v10 h11) (cwV 4 C.2.2.2.2.1 gX4_changeNode_X6_fire rfl rfl rfl (by decide +kernel) ⟨Nat.le_of_ble_eq_true rfl, Nat.le_of_ble_eq_true rfl⟩) rfl hl.1 rfl (Nat.le_of_ble_eq_true rfl) dX4_changeNode_46 ⟨Nat.le_refl _, Nat.le_refl _⟩ (fun H locs hJ hS => ?_)
    obtain ⟨rfl, rfl⟩ := jm_ret_ok hf
    exact jw_rv C hJ hS (Nat.le_refl _) (Nat.le_refl _) dX4_changeNode_49
  · replace hf := jm_ift hf hq3
    obtain ⟨rfl, rfl⟩ := jm_ret_ok hf
    exact jw_rv C hJ hS (Nat.le_refl _) (Nat.le_refl _) dX4_changeNode_13
set_option maxHeartbeats 4000000 in
set_option maxRecDepth 100000 in
theorem cX4_changeNode_C (l : Launch) (G : jm_G) (h0 : Nat) (x1 : Option Nat) (x2 : Option Nat) {S Sf : jm_S} {rv : Unit} (hf : fX4_changeNode h0 x1 x2 S = some (rv, Sf)) : Met l yX4_changeNode wsX4_changeNode ({ frames := 4, cells := 0, slots := 0, locals := 112 } : Room) (jm_Pc G S [.ref h0, va_rf x1, va_rf x2]) (jm_Q G (none) Sf) 0 0 (jm_A G) := by
  refine Met.ofW (cc := cX4_changeNode) (maxL := 4) (ret := none) (by decide) rfl ?_
  intro p e s m args below meth c s₁ B hml hv
  obtain ⟨rfl, hJ, hX⟩ := hv
  have C : jm_C G cX4_changeNode 4 RX4 wsX4_changeNode (none) p s m _ meth c := ⟨B.exec, B.bytes, hml, findClass_of_methodNamed B.named, atoms_spec (ws := wsX4_changeNode) B.pre, B.returns, B.notSynchronized, hX⟩
  obtain ⟨ls, he, hl⟩ := jm_entry m [.inr (some h0), .inr x1, .inr x2] (n := 4) (Nat.le_of_ble_eq_true rfl)
  have he : entryFrame m ([.ref h0, va_rf x1, va_rf x2] : List Value).toArray 4 = F0 m 0 ls [] := he
  rw [he]
  exact kX4_changeNode C h0 x1 x2 hf hJ va_S.rf (hl.sub [0, 1, 2] rfl)
/-! CoordinationService$Node.release -/
def fX0_release (h0 : Nat) : jm_P Int32 := jm_rd (jm_gI (some h0) 1 0) fun v1 => jm_wr (jm_p (some h0) 1 0 (.inl (-1))) <| jm_ret v1
theorem inX0_release_X0 : ∀ w ∈ wsX00, w ∈ wsX0_release := fun _ h => List.mem_cons_of_mem _ (List.mem_append_right _ h)
theorem moX0_release (h0 : Nat) : jm_Mo (fX0_release h0) := by
  unfold fX0_release
  exact jm_Mo_rd (fun _ => jm_Mo_wr jm_p_st (jm_Mo_ret _))
set_option maxHeartbeats 4000000 in
set_option maxRecDepth 100000 in
theorem kX0_release {rv : Int32} {Sf : jm_S} (C : jm_C G cX0_release 2 RX0 wsX0_release ((some .int)) p s m args meth c) : ∀ (h0 : Nat) {S : jm_S} {H : Heap} {locs : List Loc} {ls : Array Slot}, fX0_release h0 S = some (rv, Sf) → jm_J G S H → va_S (jm_A G) s.heap H locs → jm_L ls 2 [(0, .inr (some h0))] → W p l e ({ frames := 0, cells := 0, slots := 0, locals := 0 } : Room) s m args below meth c H locs 0 0 (MQ below (jm_Q G (some (.int rv)) Sf) args s 0 0 (jm_A G)) (F0 m 0 ls []) := by
  intro h0 S H locs ls hf hJ hS hl
  unfold fX0_release at hf
  refine jw_aload_n C dX0_release_0 rfl (hl.at 0 rfl) ?_
  obtain ⟨v1, h1, hf⟩ := jm_rd_ok hf
  refine jw_gI (Cn := RX0) (T := TX0) (N := 4) C hJ h1 rfl inX0_release_X0 (by decide) (jm_w C 1 rfl) (fun _ h => h) dX0_release_1 ?_
  refine jw_istore_n C dX0_release_4 rfl hl (by decide) rfl (fun ls hl => ?_)
  refine jw_aload_n C dX0_release_5 rfl (hl.at 1 rfl) ?_
  refine lv_iconst (v := (-1)) C.1 C.2.1 dX0_release_6 (by decide) ?_
  obtain ⟨S2, h2, hf⟩ := jm_wr_ok hf
  refine jw_p (x := .inl (-1)) (ty := .int) (Cn := RX0) (T := TX0) (N := 4) C hJ hS h2 rfl inX0_release_X0 tyX0 tyX0_ok nmX0 (by decide) (jm_w C 1 rfl) (fun _ h => h) rfl (by decide +kernel) rfl rfl dX0_release_7 (fun H locs hJ hS => ?_)
  refine lv_iload_n C.1 C.2.1 dX0_release_10 rfl (hl.at 0 rfl) ?_
  obtain ⟨rfl, rfl⟩ := jm_ret_ok hf
  exact jw_ri C hJ hS (Nat.le_refl _) (Nat.le_refl _) dX0_release_11
set_option maxHeartbeats 4000000 in
set_option maxRecDepth 100000 in
theorem cX0_release_C (l : Launch) (G : jm_G) (h0 : Nat) {S Sf : jm_S} {rv : Int32} (hf : fX0_release h0 S = some (rv, Sf)) : Met l yX0_release wsX0_release ({ frames := 0, cells := 0, slots := 0, locals := 0 } : Room) (jm_Pc G S [.ref h0]) (jm_Q G (some (.int rv)) Sf) 0 0 (jm_A G) := by
  refine Met.ofW (cc := cX0_release) (maxL := 2) (ret := (some .int)) (by decide) rfl ?_
  intro p e s m args below meth c s₁ B hml hv
  obtain ⟨rfl, hJ, hX⟩ := hv
  have C : jm_C G cX0_release 2 RX0 wsX0_release ((some .int)) p s m _ meth c := ⟨B.exec, B.bytes, hml, findClass_of_methodNamed B.named, atoms_spec (ws := wsX0_release) B.pre, B.returns, B.notSynchronized, hX⟩
  obtain ⟨ls, he, hl⟩ := jm_entry m [.inr (some h0)] (n := 2) (Nat.le_of_ble_eq_true rfl)
  have he : entryFrame m ([.ref h0] : List Value).toArray 2 = F0 m 0 ls [] := he
  rw [he]
  exact kX0_release C h0 hf hJ va_S.rf (hl.sub [0] rfl)
/-! CoordinationService$Tree.removeNode -/
def fX4_removeNode (h0 : Nat) (x1 : Option Nat) (x2 : Option Nat) : jm_P Unit := jm_rd (jm_gI x1 4 2) fun v1 => jm_rd (jm_o (some h0) 5) fun a2 => jm_bd (fX4_find a2 v1) fun v2 => (if v2 = none then jm_ret () else jm_rd (jm_gI (some h0) 5 0) fun v4 => jm_rd (jm_o v2 1) fun a5 => jm_bd (fX0_release a5) fun v5 => jm_rd (jm_gI x1 4 0) fun v6 => jm_rd (jm_o x2 7) fun a7 => jm_bd (fX6_fire a7 v4 v5 2 v6) fun _ => jm_ret ())
theorem inX4_removeNode_X3 : ∀ w ∈ wsX30, w ∈ wsX4_removeNode := fun _ h => List.mem_cons_of_mem _ (List.mem_append_left _ (List.mem_append_left _ (List.mem_append_left _ (List.mem_append_left _ (List.mem_append_left _ (List.mem_append_left _ (List.mem_append_right _ h)))))))
theorem inX4_removeNode_X4 : ∀ w ∈ wsX40, w ∈ wsX4_removeNode := fun _ h => List.mem_cons_of_mem _ (List.mem_append_left _ (List.mem_append_left _ (List.mem_append_left _ (List.mem_append_left _ (List.mem_append_left _ (List.mem_append_right _ h))))))
theorem moX4_removeNode (h0 : Nat) (x1 : Option Nat) (x2 : Option Nat) : jm_Mo (fX4_removeNode h0 x1 x2) := by
  unfold fX4_removeNode
  exact jm_Mo_rd (fun _ => jm_Mo_rd (fun _ => jm_Mo_bd (moX4_find _ _) (fun _ => jm_Mo_if (jm_Mo_ret _) (jm_Mo_rd (fun _ => jm_Mo_rd (fun _ => jm_Mo_bd (moX0_release _) (fun _ => jm_Mo_rd (fun _ => jm_Mo_rd (fun _ => jm_Mo_bd (moX6_fire _ _ _ _ _) (fun _ => jm_Mo_ret _))))))))))
set_option maxHeartbeats 4000000 in
set_option maxRecDepth 100000 in
theorem kX4_removeNode {rv : Unit} {Sf : jm_S} (C : jm_C G cX4_removeNode 4 RX4 wsX4_removeNode (none) p s m args meth c) : ∀ (h0 : Nat) (x1 : Option Nat) (x2 : Option Nat) {S : jm_S} {H : Heap} {locs : List Loc} {ls : Array Slot}, fX4_removeNode h0 x1 x2 S = some (rv, Sf) → jm_J G S H → va_S (jm_A G) s.heap H locs → jm_L ls 4 [(0, .inr (some h0)), (1, .inr x1), (2, .inr x2)] → W p l e ({ frames := 4, cells := 0, slots := 0, locals := 112 } : Room) s m args below meth c H locs 0 0 (MQ below (jm_Q G (none) Sf) args s 0 0 (jm_A G)) (F0 m 0 ls []) := by
  intro h0 x1 x2 S H locs ls hf hJ hS hl
  unfold fX4_removeNode at hf
  refine jw_aload_n C dX4_removeNode_0 rfl (hl.at 0 rfl) ?_
  refine jw_aload_n C dX4_removeNode_1 rfl (hl.at 1 rfl) ?_
  obtain ⟨v1, h1, hf⟩ := jm_rd_ok hf
  refine jw_gI (Cn := RX3) (T := TX3) (N := 5) C hJ h1 rfl inX4_removeNode_X3 (by decide) (jm_w C 1 rfl) (fun _ h => h) dX4_removeNode_2 ?_
  obtain ⟨a2, o2, hf⟩ := jm_rd_ok hf
  obtain ⟨v2, S2, h2, hf⟩ := jm_bd_ok hf
  refine jw_cV (q := (RX4, TX4, 2)) C hJ hS o2 rfl (cX4_find_C l G a2 v1 h2) (cwV 1 C.2.2.2.2.1 gX4_removeNode_X4_find rfl rfl rfl (by decide +kernel) ⟨Nat.le_of_ble_eq_true rfl, Nat.le_of_ble_eq_true rfl⟩) rfl hl.1 rfl (Nat.le_of_ble_eq_true rfl) dX4_removeNode_5 ⟨Nat.le_refl _, Nat.le_refl _⟩ (fun H locs hJ hS => ?_)
  refine jw_astore_n C dX4_removeNode_8 rfl hl (by decide) rfl (fun ls hl => ?_)
  refine jw_aload_n C dX4_removeNode_9 rfl (hl.at 0 rfl) ?_
  refine jw_ifnonnull (tgt := 14) C dX4_removeNode_10 (by decide) (fun hq3 => ?_) (fun hq3 => ?_)
  · replace hf := jm_iff hf hq3
    refine jw_aload_n C dX4_removeNode_14 rfl (hl.at 3 rfl) ?_
    refine jw_aload_n C dX4_removeNode_15 rfl (hl.at 1 rfl) ?_
    obtain ⟨v4, h4, hf⟩ := jm_rd_ok hf
    refine jw_gI (Cn := RX4) (T := TX4) (N := 2) C hJ h4 rfl inX4_removeNode_X4 (by decide) (jm_w C 2 rfl) (fun _ h => h) dX4_removeNode_16 ?_
    refine jw_aload_n C dX4_removeNode_19 rfl (hl.at 0 rfl) ?_
    obtain ⟨a5, o5, hf⟩ := jm_rd_ok hf
    obtain ⟨v5, S5, h5, hf⟩ := jm_bd_ok hf
    refine jw_cV (q := (RX0, TX0, 4)) C hJ hS o5 rfl (cX0_release_C l G a5 h5) (cwV 0 C.2.2.2.2.1 gX4_removeNode_X0_release rfl rfl rfl (by decide +kernel) ⟨Nat.le_of_ble_eq_true rfl, Nat.le_of_ble_eq_true rfl⟩) rfl hl.1 rfl (Nat.le_of_ble_eq_true rfl) dX4_removeNode_20 ⟨Nat.le_refl _, Nat.le_refl _⟩ (fun H locs hJ hS => ?_)
    refine lv_iconst (v := 2) C.1 C.2.1 dX4_removeNode_23 (by decide) ?_
    refine jw_aload_n C dX4_removeNode_24 rfl (hl.at 2 rfl) ?_
    obtain ⟨v6, h6, hf⟩ := jm_rd_ok hf
    refine jw_gI (Cn := RX3) (T := TX3) (N := 5) C hJ h6 rfl inX4_removeNode_X3 (by decide) (jm_w C 3 rfl) (fun _ h => h) dX4_removeNode_25 ?_
    obtain ⟨a7, o7, hf⟩ := jm_rd_ok hf
    obtain ⟨v7, S7, h7, hf⟩ := jm_bd_ok hf
    refine jw_cV (q := (RX6, TX6, 1)) C hJ hS o7 rfl (cX6_fire_C l G a7 v4 v5 2 v6 h7) (cwV 4 C.2.2.2.2.1 gX4_removeNode_X6_fire rfl rfl rfl (by decide +kernel) ⟨Nat.le_of_ble_eq_true rfl, Nat.le_of_ble_eq_true rfl⟩) rfl hl.1 rfl (Nat.le_of_ble_eq_true rfl) dX4_removeNode_28 ⟨Nat.le_refl _, Nat.le_refl _⟩ (fun H locs hJ hS => ?_)
    obtain ⟨rfl, rfl⟩ := jm_ret_ok hf
    exact jw_rv C hJ hS (Nat.le_refl _) (Nat.le_refl _) dX4_removeNode_31
  · replace hf := jm_ift hf hq3
    obtain ⟨rfl, rfl⟩ := jm_ret_ok hf
    exact jw_rv C hJ hS (Nat.le_refl _) (Nat.le_refl _) dX4_removeNode_13
set_option maxHeartbeats 4000000 in
set_option maxRecDepth 100000 in
theorem cX4_removeNode_C (l : Launch) (G : jm_G) (h0 : Nat) (x1 : Option Nat) (x2 : Option Nat) {S Sf : jm_S} {rv : Unit} (hf : fX4_removeNode h0 x1 x2 S = some (rv, Sf)) : Met l yX4_removeNode wsX4_removeNode ({ frames := 4, cells := 0, slots := 0, locals := 112 } : Room) (jm_Pc G S [.ref h0, va_rf x1, va_rf x2]) (jm_Q G (none) Sf) 0 0 (jm_A G) := by
  refine Met.ofW (cc := cX4_removeNode) (maxL := 4) (ret := none) (by decide) rfl ?_
  intro p e s m args below meth c s₁ B hml hv
  obtain ⟨rfl, hJ, hX⟩ := hv
  have C : jm_C G cX4_removeNode 4 RX4 wsX4_removeNode (none) p s m _ meth c := ⟨B.exec, B.bytes, hml, findClass_of_methodNamed B.named, atoms_spec (ws := wsX4_removeNode) B.pre, B.returns, B.notSynchronized, hX⟩
  obtain ⟨ls, he, hl⟩ := jm_entry m [.inr (some h0), .inr x1, .inr x2] (n := 4) (Nat.le_of_ble_eq_true rfl)
  have he : entryFrame m ([.ref h0, va_rf x1, va_rf x2] : List Value).toArray 4 = F0 m 0 ls [] := he
  rw [he]
  exact kX4_removeNode C h0 x1 x2 hf hJ va_S.rf (hl.sub [0, 1, 2] rfl)
/-! CoordinationService.rankOf -/
def fX7_rankOf_4 : Nat → Int32 → Int32 → jm_P Int32
  | 0, _, _ => jm_no
  | n + 1, x1, x2 => (if 4 ≤ x2 then jm_ret x1 else (if 512 ≤ x1 then jm_ret x1 else fX7_rankOf_4 n (x1 <<< (3 &&& 31)) (x2 + 1)))
def fX7_rankOf (x0 : Int32) : jm_P Int32 := fX7_rankOf_4 4096 x0 1
theorem moX7_rankOf_4 : ∀ (n : Nat) (x1 : Int32) (x2 : Int32), jm_Mo (fX7_rankOf_4 n x1 x2) := by
  intro n
  induction n with
  | zero =>
    intro x1 x2
    rw [fX7_rankOf_4]
    exact jm_Mo_no
  | succ n ih =>
    intro x1 x2
    rw [fX7_rankOf_4]
    exact jm_Mo_if (jm_Mo_ret _) (jm_Mo_if (jm_Mo_ret _) (ih _ _))
set_option maxHeartbeats 4000000 in
set_option maxRecDepth 100000 in
theorem kX7_rankOf_4 {rv : Int32} {Sf : jm_S} (C : jm_C G cX7_rankOf 3 RX7 wsX7_rankOf ((some .int)) p s m args meth c) : ∀ (n : Nat) (x1 : Int32) (x2 : Int32) {S : jm_S} {H : Heap} {locs : List Loc} {ls : Array Slot}, fX7_rankOf_4 n x1 x2 S = some (rv, Sf) → jm_J G S H → va_S (jm_A G) s.heap H locs → jm_L ls 3 [(1, .inl x1), (2, .inl x2)] → W p l e ({ frames := 0, cells := 0, slots := 0, locals := 0 } : Room) s m args below meth c H locs 0 0 (MQ below (jm_Q G (some (.int rv)) Sf) args s 0 0 (jm_A G)) (F0 m 4 ls []) := by
  intro n
  induction n with
  | zero =>
    intro x1 x2 S H locs ls hf
    rw [fX7_rankOf_4] at hf
    exact absurd hf (fun h => jm_no_ok h)
  | succ n ih =>
    intro x1 x2 S H locs ls hf hJ hS hl
    rw [fX7_rankOf_4] at hf
    refine lv_iload_n C.1 C.2.1 dX7_rankOf_4 rfl (hl.at 1 rfl) ?_
    refine lv_iconst (v := 4) C.1 C.2.1 dX7_rankOf_5 (by decide) ?_
    refine lv_icmp_ge (tgt := 26) C.1 C.2.1 dX7_rankOf_6 (by decide) (fun hq1 => ?_) (fun hq1 => ?_)
    · replace hf := jm_ift hf hq1
      refine lv_iload_n C.1 C.2.1 dX7_rankOf_26 rfl (hl.at 0 rfl) ?_
      obtain ⟨rfl, rfl⟩ := jm_ret_ok hf
      exact jw_ri C hJ hS (Nat.le_refl _) (Nat.le_refl _) dX7_rankOf_27
    · replace hf := jm_iff hf hq1
      refine lv_iload_n C.1 C.2.1 dX7_rankOf_9 rfl (hl.at 0 rfl) ?_
      refine lv_sipush (v := 512) C.1 C.2.1 dX7_rankOf_10 (by decide) ?_
      refine lv_icmp_ge (tgt := 26) C.1 C.2.1 dX7_rankOf_13 (by decide) (fun hq2 => ?_) (fun hq2 => ?_)
      · replace hf := jm_ift hf hq2
        refine lv_iload_n C.1 C.2.1 dX7_rankOf_26 rfl (hl.at 0 rfl) ?_
        obtain ⟨rfl, rfl⟩ := jm_ret_ok hf
        exact jw_ri C hJ hS (Nat.le_refl _) (Nat.le_refl _) dX7_rankOf_27
      · replace hf := jm_iff hf hq2
        refine lv_iload_n C.1 C.2.1 dX7_rankOf_16 rfl (hl.at 0 rfl) ?_
        refine lv_iconst (v := 3) C.1 C.2.1 dX7_rankOf_17 (by decide) ?_
        refine lv_ishl C.1 C.2.1 dX7_rankOf_18 ?_
        refine jw_istore_n C dX7_rankOf_19 rfl hl (by decide) rfl (fun ls hl => ?_)
        refine jw_iinc (v := x2 + 1) C 1 dX7_rankOf_20 hl rfl (by rfl) (by decide) rfl (fun ls hl => ?_)
        refine lv_goto (tgt := 4) C.1 C.2.1 dX7_rankOf_23 (by decide) ?_
        exact ih (x1 <<< (3 &&& 31)) (x2 + 1) hf hJ hS (hl.sub [1, 0] rfl)
theorem moX7_rankOf (x0 : Int32) : jm_Mo (fX7_rankOf x0) := by
  unfold fX7_rankOf
  exact moX7_rankOf_4 _ _ _
set_option maxHeartbeats 4000000 in
set_option maxRecDepth 100000 in
theorem kX7_rankOf {rv : Int32} {Sf : jm_S} (C : jm_C G cX7_rankOf 3 RX7 wsX7_rankOf ((some .int)) p s m args meth c) : ∀ (x0 : Int32) {S : jm_S} {H : Heap} {locs : List Loc} {ls : Array Slot}, fX7_rankOf x0 S = some (rv, Sf) → jm_J G S H → va_S (jm_A G) s.heap H locs → jm_L ls 3 [(0, .inl x0)] → W p l e ({ frames := 0, cells := 0, slots := 0, locals := 0 } : Room) s m args below meth c H locs 0 0 (MQ below (jm_Q G (some (.int rv)) Sf) args s 0 0 (jm_A G)) (F0 m 0 ls []) := by
  intro x0 S H locs ls hf hJ hS hl
  unfold fX7_rankOf at hf
  refine lv_iload_n C.1 C.2.1 dX7_rankOf_0 rfl (hl.at 0 rfl) ?_
  refine jw_istore_n C dX7_rankOf_1 rfl hl (by decide) rfl (fun ls hl => ?_)
  refine lv_iconst (v := 1) C.1 C.2.1 dX7_rankOf_2 (by decide) ?_
  refine jw_istore_n C dX7_rankOf_3 rfl hl (by decide) rfl (fun ls hl => ?_)
  exact kX7_rankOf_4 C 4096 x0 1 hf hJ hS (hl.sub [1, 0] rfl)
set_option maxHeartbeats 4000000 in
set_option maxRecDepth 100000 in
theorem cX7_rankOf_C (l : Launch) (G : jm_G) (x0 : Int32) {S Sf : jm_S} {rv : Int32} (hf : fX7_rankOf x0 S = some (rv, Sf)) : Met l yX7_rankOf wsX7_rankOf ({ frames := 0, cells := 0, slots := 0, locals := 0 } : Room) (jm_Pc G S [.int x0]) (jm_Q G (some (.int rv)) Sf) 0 0 (jm_A G) := by
  refine Met.ofW (cc := cX7_rankOf) (maxL := 3) (ret := (some .int)) (by decide) rfl ?_
  intro p e s m args below meth c s₁ B hml hv
  obtain ⟨rfl, hJ, hX⟩ := hv
  have C : jm_C G cX7_rankOf 3 RX7 wsX7_rankOf ((some .int)) p s m _ meth c := ⟨B.exec, B.bytes, hml, findClass_of_methodNamed B.named, atoms_spec (ws := wsX7_rankOf) B.pre, B.returns, B.notSynchronized, hX⟩
  obtain ⟨ls, he, hl⟩ := jm_entry m [.inl x0] (n := 3) (Nat.le_of_ble_eq_true rfl)
  have he : entryFrame m ([.int x0] : List Value).toArray 3 = F0 m 0 ls [] := he
  rw [he]
  exact kX7_rankOf C x0 hf hJ va_S.rf (hl.sub [0] rfl)
/-! CoordinationService$Tree.firstNodeOf -/
def fX4_firstNodeOf_14 : Nat → Int32 → Option Nat → Option Nat → Int32 → Int32 → jm_P (Option Nat)
  | 0, _, _, _, _, _ => jm_no
  | n + 1, x1, x2, x3, x4, x5 => (if x4 ≤ x5 then jm_ret x2 else jm_rd (jm_gq x3 2 x5) fun v4 => jm_rd (jm_gI v4 1 0) fun v5 => (if v5 = (-1) then fX4_firstNodeOf_14 n x1 x2 x3 x4 (x5 + 1) else jm_rd (jm_gI v4 1 3) fun v7 => (if v7 = x1 then (if x2 = none then fX4_firstNodeOf_14 n x1 v4 x3 x4 (x5 + 1) else jm_rd (jm_gI v4 1 0) fun v10 => jm_bd (fX7_rankOf v10) fun v11 => jm_rd (jm_gI x2 1 0) fun v12 => jm_bd (fX7_rankOf v12) fun v13 => (if v13 ≤ v11 then fX4_firstNodeOf_14 n x1 x2 x3 x4 (x5 + 1) else fX4_firstNodeOf_14 n x1 v4 x3 x4 (x5 + 1))) else fX4_firstNodeOf_14 n x1 x2 x3 x4 (x5 + 1))))
def fX4_firstNodeOf (h0 : Nat) (x1 : Int32) : jm_P (Option Nat) := jm_rd (jm_gR (some h0) 5 1) fun v1 => jm_rd (jm_lq v1 2) fun v2 => fX4_firstNodeOf_14 4096 x1 none v1 v2 0
theorem inX4_firstNodeOf_X4 : ∀ w ∈ wsX40, w ∈ wsX4_firstNodeOf := fun _ h => List.mem_cons_of_mem _ (List.mem_append_left _ (List.mem_append_right _ h))
theorem inX4_firstNodeOf_X0 : ∀ w ∈ wsX00, w ∈ wsX4_firstNodeOf := fun _ h => List.mem_cons_of_mem _ (List.mem_append_right _ h)
theorem moX4_firstNodeOf_14 : ∀ (n : Nat) (x1 : Int32) (x2 : Option Nat) (x3 : Option Nat) (x4 : Int32) (x5 : Int32), jm_Mo (fX4_firstNodeOf_14 n x1 x2 x3 x4 x5) := by
  intro n
  induction n with
  | zero =>
    intro x1 x2 x3 x4 x5
    rw [fX4_firstNodeOf_14]
    exact jm_Mo_no
  | succ n ih =>
    intro x1 x2 x3 x4 x5
    rw [fX4_firstNodeOf_14]
    exact jm_Mo_if (jm_Mo_ret _) (jm_Mo_rd (fun _ => jm_Mo_rd (fun _ => jm_Mo_if (ih _ _ _ _ _) (jm_Mo_rd (fun _ => jm_Mo_if (jm_Mo_if (ih _ _ _ _ _) (jm_Mo_rd (fun _ => jm_Mo_bd (moX7_rankOf _) (fun _ => jm_Mo_rd (fun _ => jm_Mo_bd (moX7_rankOf _) (fun _ => jm_Mo_if (ih _ _ _ _ _) (ih _ _ _ _ _))))))) (ih _ _ _ _ _))))))
set_option maxHeartbeats 4000000 in
set_option maxRecDepth 100000 in
theorem kX4_firstNodeOf_14 {rv : (Option Nat)} {Sf : jm_S} (C : jm_C G cX4_firstNodeOf 7 RX4 wsX4_firstNodeOf ((some (.object "CoordinationService$Node"))) p s m args meth c) : ∀ (n : Nat) (x1 : Int32) (x2 : Option Nat) (x3 : Option Nat) (x4 : Int32) (x5 : Int32) {S : jm_S} {H : Heap} {locs : List Loc} {ls : Array Slot}, fX4_firstNodeOf_14 n x1 x2 x3 x4 x5 S = some (rv, Sf) → jm_J G S H → va_S (jm_A G) s.heap H locs → jm_L ls 7 [(1, .inl x1), (2, .inr x2), (3, .inr x3), (4, .inl x4), (5, .inl x5)] → W p l e ({ frames := 1, cells := 0, slots := 0, locals := 22 } : Room) s m args below meth c H locs 0 0 (MQ below (jm_Q G (some (va_rf rv)) Sf) args s 0 0 (jm_A G)) (F0 m 14 ls []) := by
  intro n
  induction n with
  | zero =>
    intro x1 x2 x3 x4 x5 S H locs ls hf
    rw [fX4_firstNodeOf_14] at hf
    exact absurd hf (fun h => jm_no_ok h)
  | succ n ih =>
    intro x1 x2 x3 x4 x5 S H locs ls hf hJ hS hl
    rw [fX4_firstNodeOf_14] at hf
    refine lv_iload C.1 C.2.1 dX4_firstNodeOf_14 (hl.at 4 rfl) ?_
    refine lv_iload C.1 C.2.1 dX4_firstNodeOf_16 (hl.at 3 rfl) ?_
    refine lv_icmp_ge (tgt := 76) C.1 C.2.1 dX4_firstNodeOf_18 (by decide) (fun hq3 => ?_) (fun hq3 => ?_)
    · replace hf := jm_ift hf hq3
      refine jw_aload_n C dX4_firstNodeOf_76 rfl (hl.at 1 rfl) ?_
      obtain ⟨rfl, rfl⟩ := jm_ret_ok hf
      exact jw_ra C (Or.inl ⟨_, rfl⟩) hJ hS (Nat.le_refl _) (Nat.le_refl _) dX4_firstNodeOf_77
    · replace hf := jm_iff hf hq3
      refine jw_aload_n C dX4_firstNodeOf_21 rfl (hl.at 2 rfl) ?_
      refine lv_iload C.1 C.2.1 dX4_firstNodeOf_22 (hl.at 4 rfl) ?_
      obtain ⟨v4, h4, hf⟩ := jm_rd_ok hf
      refine jw_aaload C hJ h4 (by decide) rfl dX4_firstNodeOf_24 ?_
      refine jw_astore C dX4_firstNodeOf_25 hl (by decide) rfl (fun ls hl => ?_)
      refine jw_aload C dX4_firstNodeOf_27 (hl.at 0 rfl) ?_
      obtain ⟨v5, h5, hf⟩ := jm_rd_ok hf
      refine jw_gI (Cn := RX0) (T := TX0) (N := 4) C hJ h5 rfl inX4_firstNodeOf_X0 (by decide) (jm_w C 2 rfl) (fun _ h => h) dX4_firstNodeOf_29 ?_
      refine lv_iconst (v := (-1)) C.1 C.2.1 dX4_firstNodeOf_32 (by decide) ?_
      refine lv_icmp_eq (tgt := 70) C.1 C.2.1 dX4_firstNodeOf_33 (by decide) (fun hq6 => ?_) (fun hq6 => ?_)
      · replace hf := jm_ift hf hq6
        refine jw_iinc (v := x5 + 1) C 5 dX4_firstNodeOf_70 hl rfl (by rfl) (by decide) rfl (fun ls hl => ?_)
        refine lv_goto (tgt := 14) C.1 C.2.1 dX4_firstNodeOf_73 (by decide) ?_
        exact ih x1 x2 x3 x4 (x5 + 1) hf hJ hS (hl.sub [2, 3, 4, 5, 0] rfl)
      · replace hf := jm_iff hf hq6
        refine jw_aload C dX4_firstNodeOf_36 (hl.at 0 rfl) ?_
        obtain ⟨v7, h7, hf⟩ := jm_rd_ok hf
        refine jw_gI (Cn := RX0) (T := TX0) (N := 4) C hJ h7 rfl inX4_firstNodeOf_X0 (by decide) (jm_w C 3 rfl) (fun _ h => h) dX4_firstNodeOf_38 ?_
        refine lv_iload_n C.1 C.2.1 dX4_firstNodeOf_41 rfl (hl.at 1 rfl) ?_
        refine lv_icmp_ne (tgt := 70) C.1 C.2.1 dX4_firstNodeOf_42 (by decide) (fun hq8 => ?_) (fun hq8 => ?_)
        · replace hf := jm_iff hf hq8
          refine jw_iinc (v := x5 + 1) C 5 dX4_firstNodeOf_70 hl rfl (by rfl) (by decide) rfl (fun ls hl => ?_)
          refine lv_goto (tgt := 14) C.1 C.2.1 dX4_firstNodeOf_73 (by decide) ?_
          exact ih x1 x2 x3 x4 (x5 + 1) hf hJ hS (hl.sub [2, 3, 4, 5, 0] rfl)
        · replace hf := jm_ift hf hq8
          refine jw_aload_n C dX4_firstNodeOf_45 rfl (hl.at 2 rfl) ?_
          refine jw_ifnull (tgt := 67) C dX4_firstNodeOf_46 (by decide) (fun hq9 => ?_) (fun hq9 => ?_)
          · replace hf := jm_ift hf hq9
            refine jw_aload C dX4_firstNodeOf_67 (hl.at 0 rfl) ?_
            refine jw_astore_n C dX4_firstNodeOf_69 rfl hl (by decide) rfl (fun ls hl => ?_)
            refine jw_iinc (v := x5 + 1) C 5 dX4_firstNodeOf_70 hl rfl (by rfl) (by decide) rfl (fun ls hl => ?_)
            refine lv_goto (tgt := 14) C.1 C.2.1 dX4_firstNodeOf_73 (by decide) ?_
            exact ih x1 v4 x3 x4 (x5 + 1) hf hJ hS (hl.sub [3, 1, 4, 5, 0] rfl)
          · replace hf := jm_iff hf hq9
            refine jw_aload C dX4_firstNodeOf_49 (hl.at 0 rfl) ?_
            obtain ⟨v10, h10, hf⟩ := jm_rd_ok hf
            refine jw_gI (Cn := RX0) (T := TX0) (N := 4) C hJ h10 rfl inX4_firstNodeOf_X0 (by decide) (jm_w C 2 rfl) (fun _ h => h) dX4_firstNodeOf_51 ?_
            obtain ⟨v11, S11, h11, hf⟩ := jm_bd_ok hf
            refine jw_cSN C hJ hS (cX7_rankOf_C l G v10 h11) (va_cnB 1 C.2.2.2.2.1 gX4_firstNodeOf_X7_rankOf_n81 rfl rfl rfl C.2.2.2.2.2.2.2.2.2.2.2.2.2.2.2.2.1 (jm_w C 5 rfl) (by decide +kernel) ⟨Nat.le_of_ble_eq_true rfl, Nat.le_of_ble_eq_true rfl⟩) (jm_w C 4 rfl) rfl hl.1 rfl (Nat.le_of_ble_eq_true rfl) dX4_firstNodeOf_54 ⟨Nat.le_refl _, Nat.le_refl _⟩ (fun H locs hJ hS => ?_)
            refine jw_aload_n C dX4_firstNodeOf_57 rfl (hl.at 2 rfl) ?_
            obtain ⟨v12, h12, hf⟩ := jm_rd_ok hf
            refine jw_gI (Cn := RX0) (T := TX0) (N := 4) C hJ h12 rfl inX4_firstNodeOf_X0 (by decide) (jm_w C 2 rfl) (fun _ h => h) dX4_firstNodeOf_58 ?_
            obtain ⟨v13, S13, h13, hf⟩ := jm_bd_ok hf
            refine jw_cSN C hJ hS (cX7_rankOf_C l G v12 h13) (va_cnB 1 C.2.2.2.2.1 gX4_firstNodeOf_X7_rankOf_n81 rfl rfl rfl C.2.2.2.2.2.2.2.2.2.2.2.2.2.2.2.2.1 (jm_w C 5 rfl) (by decide +kernel) ⟨Nat.le_of_ble_eq_true rfl, Nat.le_of_ble_eq_true rfl⟩) (jm_w C 4 rfl) rfl hl.1 rfl (Nat.le_of_ble_eq_true rfl) dX4_firstNodeOf_61 ⟨Nat.le_refl _, Nat.le_refl _⟩ (fun H locs hJ hS => ?_)
            refine lv_icmp_ge (tgt := 70) C.1 C.2.1 dX4_firstNodeOf_64 (by decide) (fun hq14 => ?_) (fun hq14 => ?_)
            · replace hf := jm_ift hf hq14
              refine jw_iinc (v := x5 + 1) C 5 dX4_firstNodeOf_70 hl rfl (by rfl) (by decide) rfl (fun ls hl => ?_)
              refine lv_goto (tgt := 14) C.1 C.2.1 dX4_firstNodeOf_73 (by decide) ?_
              exact ih x1 x2 x3 x4 (x5 + 1) hf hJ hS (hl.sub [2, 3, 4, 5, 0] rfl)
            · replace hf := jm_iff hf hq14
              refine jw_aload C dX4_firstNodeOf_67 (hl.at 0 rfl) ?_
              refine jw_astore_n C dX4_firstNodeOf_69 rfl hl (by decide) rfl (fun ls hl => ?_)
              refine jw_iinc (v := x5 + 1) C 5 dX4_firstNodeOf_70 hl rfl (by rfl) (by decide) rfl (fun ls hl => ?_)
              refine lv_goto (tgt := 14) C.1 C.2.1 dX4_firstNodeOf_73 (by decide) ?_
              exact ih x1 v4 x3 x4 (x5 + 1) hf hJ hS (hl.sub [3, 1, 4, 5, 0] rfl)
theorem moX4_firstNodeOf (h0 : Nat) (x1 : Int32) : jm_Mo (fX4_firstNodeOf h0 x1) := by
  unfold fX4_firstNodeOf
  exact jm_Mo_rd (fun _ => jm_Mo_rd (fun _ => moX4_firstNodeOf_14 _ _ _ _ _ _))
set_option maxHeartbeats 4000000 in
set_option maxRecDepth 100000 in
theorem kX4_firstNodeOf {rv : (Option Nat)} {Sf : jm_S} (C : jm_C G cX4_firstNodeOf 7 RX4 wsX4_firstNodeOf ((some (.object "CoordinationService$Node"))) p s m args meth c) : ∀ (h0 : Nat) (x1 : Int32) {S : jm_S} {H : Heap} {locs : List Loc} {ls : Array Slot}, fX4_firstNodeOf h0 x1 S = some (rv, Sf) → jm_J G S H → va_S (jm_A G) s.heap H locs → jm_L ls 7 [(0, .inr (some h0)), (1, .inl x1)] → W p l e ({ frames := 1, cells := 0, slots := 0, locals := 22 } : Room) s m args below meth c H locs 0 0 (MQ below (jm_Q G (some (va_rf rv)) Sf) args s 0 0 (jm_A G)) (F0 m 0 ls []) := by
  intro h0 x1 S H locs ls hf hJ hS hl
  unfold fX4_firstNodeOf at hf
  refine lv_null C.1 C.2.1 dX4_firstNodeOf_0 ?_
  show W _ _ _ _ _ _ _ _ _ _ _ _ _ _ _ (F0 _ _ _ (va_rf none :: _))
  refine jw_astore_n C dX4_firstNodeOf_1 rfl hl (by decide) rfl (fun ls hl => ?_)
  refine jw_aload_n C dX4_firstNodeOf_2 rfl (hl.at 1 rfl) ?_
  obtain ⟨v1, h1, hf⟩ := jm_rd_ok hf
  refine jw_gR (Cn := RX4) (T := TX4) (N := 2) C hJ h1 rfl inX4_firstNodeOf_X4 (by decide) (jm_w C 1 rfl) (fun _ h => h) dX4_firstNodeOf_3 ?_
  refine jw_astore_n C dX4_firstNodeOf_6 rfl hl (by decide) rfl (fun ls hl => ?_)
  refine jw_aload_n C dX4_firstNodeOf_7 rfl (hl.at 0 rfl) ?_
  obtain ⟨v2, h2, hf⟩ := jm_rd_ok hf
  refine jw_lq C hJ hS h2 (by decide) rfl dX4_firstNodeOf_8 ?_
  refine jw_istore C dX4_firstNodeOf_9 hl (by decide) rfl (fun ls hl => ?_)
  refine lv_iconst (v := 0) C.1 C.2.1 dX4_firstNodeOf_11 (by decide) ?_
  refine jw_istore C dX4_firstNodeOf_12 hl (by decide) rfl (fun ls hl => ?_)
  exact kX4_firstNodeOf_14 C 4096 x1 none v1 v2 0 hf hJ hS (hl.sub [5, 3, 2, 1, 0] rfl)
set_option maxHeartbeats 4000000 in
set_option maxRecDepth 100000 in
theorem cX4_firstNodeOf_C (l : Launch) (G : jm_G) (h0 : Nat) (x1 : Int32) {S Sf : jm_S} {rv : (Option Nat)} (hf : fX4_firstNodeOf h0 x1 S = some (rv, Sf)) : Met l yX4_firstNodeOf wsX4_firstNodeOf ({ frames := 1, cells := 0, slots := 0, locals := 22 } : Room) (jm_Pc G S [.ref h0, .int x1]) (jm_Q G (some (va_rf rv)) Sf) 0 0 (jm_A G) := by
  refine Met.ofW (cc := cX4_firstNodeOf) (maxL := 7) (ret := (some (.object "CoordinationService$Node"))) (by decide) rfl ?_
  intro p e s m args below meth c s₁ B hml hv
  obtain ⟨rfl, hJ, hX⟩ := hv
  have C : jm_C G cX4_firstNodeOf 7 RX4 wsX4_firstNodeOf ((some (.object "CoordinationService$Node"))) p s m _ meth c := ⟨B.exec, B.bytes, hml, findClass_of_methodNamed B.named, atoms_spec (ws := wsX4_firstNodeOf) B.pre, B.returns, B.notSynchronized, hX⟩
  obtain ⟨ls, he, hl⟩ := jm_entry m [.inr (some h0), .inl x1] (n := 7) (Nat.le_of_ble_eq_true rfl)
  have he : entryFrame m ([.ref h0, .int x1] : List Value).toArray 7 = F0 m 0 ls [] := he
  rw [he]
  exact kX4_firstNodeOf C h0 x1 hf hJ va_S.rf (hl.sub [0, 1] rfl)
/-! CoordinationService$Tree.removeNodesOfSession -/
def fX4_removeNodesOfSession_2 : Nat → Nat → Option Nat → Option Nat → Int32 → jm_P Unit
  | 0, _, _, _, _ => jm_no
  | n + 1, h0, x1, x2, x3 => jm_rd (jm_gR (some h0) 5 1) fun v1 => jm_rd (jm_lq v1 2) fun v2 => (if v2 ≤ x3 then jm_ret () else jm_rd (jm_gI x1 4 4) fun v4 => jm_rd (jm_o (some h0) 5) fun a5 => jm_bd (fX4_firstNodeOf a5 v4) fun v5 => (if v5 = none then jm_ret () else jm_rd (jm_gI (some h0) 5 0) fun v7 => jm_rd (jm_o v5 1) fun a8 => jm_bd (fX0_release a8) fun v8 => jm_rd (jm_gI x1 4 0) fun v9 => jm_rd (jm_o x2 7) fun a10 => jm_bd (fX6_fire a10 v7 v8 2 v9) fun _ => fX4_removeNodesOfSession_2 n h0 x1 x2 (x3 + 1)))
def fX4_removeNodesOfSession (h0 : Nat) (x1 : Option Nat) (x2 : Option Nat) : jm_P Unit := fX4_removeNodesOfSession_2 4096 h0 x1 x2 0
theorem inX4_removeNodesOfSession_X4 : ∀ w ∈ wsX40, w ∈ wsX4_removeNodesOfSession := fun _ h => List.mem_cons_of_mem _ (List.mem_append_left _ (List.mem_append_left _ (List.mem_append_left _ (List.mem_append_left _ (List.mem_append_left _ (List.mem_append_left _ (List.mem_append_right _ h)))))))
theorem inX4_removeNodesOfSession_X3 : ∀ w ∈ wsX30, w ∈ wsX4_removeNodesOfSession := fun _ h => List.mem_cons_of_mem _ (List.mem_append_left _ (List.mem_append_left _ (List.mem_append_left _ (List.mem_append_left _ (List.mem_append_left _ (List.mem_append_right _ h))))))
theorem moX4_removeNodesOfSession_2 : ∀ (n : Nat) (h0 : Nat) (x1 : Option Nat) (x2 : Option Nat) (x3 : Int32), jm_Mo (fX4_removeNodesOfSession_2 n h0 x1 x2 x3) := by
  intro n
  induction n with
  | zero =>
    intro h0 x1 x2 x3
    rw [fX4_removeNodesOfSession_2]
    exact jm_Mo_no
  | succ n ih =>
    intro h0 x1 x2 x3
    rw [fX4_removeNodesOfSession_2]
    exact jm_Mo_rd (fun _ => jm_Mo_rd (fun _ => jm_Mo_if (jm_Mo_ret _) (jm_Mo_rd (fun _ => jm_Mo_rd (fun _ => jm_Mo_bd (moX4_firstNodeOf _ _) (fun _ => jm_Mo_if (jm_Mo_ret _) (jm_Mo_rd (fun _ => jm_Mo_rd (fun _ => jm_Mo_bd (moX0_release _) (fun _ => jm_Mo_rd (fun _ => jm_Mo_rd (fun _ => jm_Mo_bd (moX6_fire _ _ _ _ _) (fun _ => ih _ _ _ _)))))))))))))
set_option maxHeartbeats 4000000 in
set_option maxRecDepth 100000 in
theorem kX4_removeNodesOfSession_2 {rv : Unit} {Sf : jm_S} (C : jm_C G cX4_removeNodesOfSession 5 RX4 wsX4_removeNodesOfSession (none) p s m args meth c) : ∀ (n : Nat) (h0 : Nat) (x1 : Option Nat) (x2 : Option Nat) (x3 : Int32) {S : jm_S} {H : Heap} {locs : List Loc} {ls : Array Slot}, fX4_removeNodesOfSession_2 n h0 x1 x2 x3 S = some (rv, Sf) → jm_J G S H → va_S (jm_A G) s.heap H locs → jm_L ls 5 [(0, .inr (some h0)), (1, .inr x1), (2, .inr x2), (3, .inl x3)] → W p l e ({ frames := 4, cells := 0, slots := 0, locals := 112 } : Room) s m args below meth c H locs 0 0 (MQ below (jm_Q G (none) Sf) args s 0 0 (jm_A G)) (F0 m 2 ls []) := by
  intro n
  induction n with
  | zero =>
    intro h0 x1 x2 x3 S H locs ls hf
    rw [fX4_removeNodesOfSession_2] at hf
    exact absurd hf (fun h => jm_no_ok h)
  | succ n ih =>
    intro h0 x1 x2 x3 S H locs ls hf hJ hS hl
    rw [fX4_removeNodesOfSession_2] at hf
    refine lv_iload_n C.1 C.2.1 dX4_removeNodesOfSession_2 rfl (hl.at 3 rfl) ?_
    refine jw_aload_n C dX4_removeNodesOfSession_3 rfl (hl.at 0 rfl) ?_
    obtain ⟨v1, h1, hf⟩ := jm_rd_ok hf
    refine jw_gR (Cn := RX4) (T := TX4) (N := 2) C hJ h1 rfl inX4_removeNodesOfSession_X4 (by decide) (jm_w C 1 rfl) (fun _ h => h) dX4_removeNodesOfSession_4 ?_
    obtain ⟨v2, h2, hf⟩ := jm_rd_ok hf
    refine jw_lq C hJ hS h2 (by decide) rfl dX4_removeNodesOfSession_7 ?_
    refine lv_icmp_ge (tgt := 51) C.1 C.2.1 dX4_removeNodesOfSession_8 (by decide) (fun hq3 => ?_) (fun hq3 => ?_)
    · replace hf := jm_ift hf hq3
      obtain ⟨rfl, rfl⟩ := jm_ret_ok hf
      exact jw_rv C hJ hS (Nat.le_refl _) (Nat.le_refl _) dX4_removeNodesOfSession_51
    · replace hf := jm_iff hf hq3
      refine jw_aload_n C dX4_removeNodesOfSession_11 rfl (hl.at 0 rfl) ?_
      refine jw_aload_n C dX4_removeNodesOfSession_12 rfl (hl.at 1 rfl) ?_
      obtain ⟨v4, h4, hf⟩ := jm_rd_ok hf
      refine jw_gI (Cn := RX3) (T := TX3) (N := 5) C hJ h4 rfl inX4_removeNodesOfSession_X3 (by decide) (jm_w C 2 rfl) (fun _ h => h) dX4_removeNodesOfSession_13 ?_
      obtain ⟨a5, o5, hf⟩ := jm_rd_ok hf
      obtain ⟨v5, S5, h5, hf⟩ := jm_bd_ok hf
      refine jw_cV (q := (RX4, TX4, 2)) C hJ hS o5 rfl (cX4_firstNodeOf_C l G a5 v4 h5) (cwV 1 C.2.2.2.2.1 gX4_removeNodesOfSession_X4_firstNodeOf rfl rfl rfl (by decide +kernel) ⟨Nat.le_of_ble_eq_true rfl, Nat.le_of_ble_eq_true rfl⟩) rfl hl.1 rfl (Nat.le_of_ble_eq_true rfl) dX4_removeNodesOfSession_16 ⟨Nat.le_refl _, Nat.le_refl _⟩ (fun H locs hJ hS => ?_)
      refine jw_astore C dX4_removeNodesOfSession_19 hl (by decide) rfl (fun ls hl => ?_)
      refine jw_aload C dX4_removeNodesOfSession_21 (hl.at 0 rfl) ?_
      refine jw_ifnonnull (tgt := 27) C dX4_removeNodesOfSession_23 (by decide) (fun hq6 => ?_) (fun hq6 => ?_)
      · replace hf := jm_iff hf hq6
        refine jw_aload_n C dX4_removeNodesOfSession_27 rfl (hl.at 3 rfl) ?_
        refine jw_aload_n C dX4_removeNodesOfSession_28 rfl (hl.at 1 rfl) ?_
        obtain ⟨v7, h7, hf⟩ := jm_rd_ok hf
        refine jw_gI (Cn := RX4) (T := TX4) (N := 2) C hJ h7 rfl inX4_removeNodesOfSession_X4 (by decide) (jm_w C 3 rfl) (fun _ h => h) dX4_removeNodesOfSession_29 ?_
        refine jw_aload C dX4_removeNodesOfSession_32 (hl.at 0 rfl) ?_
        obtain ⟨a8, o8, hf⟩ := jm_rd_ok hf
        obtain ⟨v8, S8, h8, hf⟩ := jm_bd_ok hf
        refine jw_cV (q := (RX0, TX0, 4)) C hJ hS o8 rfl (cX0_release_C l G a8 h8) (cwV 0 C.2.2.2.2.1 gX4_removeNodesOfSession_X0_release rfl rfl rfl (by decide +kernel) ⟨Nat.le_of_ble_eq_true rfl, Nat.le_of_ble_eq_true rfl⟩) rfl hl.1 rfl (Nat.le_of_ble_eq_true rfl) dX4_removeNodesOfSession_34 ⟨Nat.le_refl _, Nat.le_refl _⟩ (fun H locs hJ hS => ?_)
        refine lv_iconst (v := 2) C.1 C.2.1 dX4_removeNodesOfSession_37 (by decide) ?_
        refine jw_aload_n C dX4_removeNodesOfSession_38 rfl (hl.at 2 rfl) ?_
        obtain ⟨v9, h9, hf⟩ := jm_rd_ok hf
        refine jw_gI (Cn := RX3) (T := TX3) (N := 5) C hJ h9 rfl inX4_removeNodesOfSession_X3 (by decide) (jm_w C 4 rfl) (fun _ h => h) dX4_removeNodesOfSession_39 ?_
        obtain ⟨a10, o10, hf⟩ := jm_rd_ok hf
        obtain ⟨v10, S10, h10, hf⟩ := jm_bd_ok hf
        refine jw_cV (q := (RX6, TX6, 1)) C hJ hS o10 rfl (cX6_fire_C l G a10 v7 v8 2 v9 h10) (cwV 4 C.2.2.2.2.1 gX4_removeNodesOfSession_X6_fire rfl rfl rfl (by decide +kernel) ⟨Nat.le_of_ble_eq_true rfl, Nat.le_of_ble_eq_true rfl⟩) rfl hl.1 rfl (Nat.le_of_ble_eq_true rfl) dX4_removeNodesOfSession_42 ⟨Nat.le_refl _, Nat.le_refl _⟩ (fun H locs hJ hS => ?_)
        refine jw_iinc (v := x3 + 1) C 4 dX4_removeNodesOfSession_45 hl rfl (by rfl) (by decide) rfl (fun ls hl => ?_)
        refine lv_goto (tgt := 2) C.1 C.2.1 dX4_removeNodesOfSession_48 (by decide) ?_
        exact ih h0 x1 x2 (x3 + 1) hf hJ hS (hl.sub [2, 3, 4, 0] rfl)
      · replace hf := jm_ift hf hq6
        obtain ⟨rfl, rfl⟩ := jm_ret_ok hf
        exact jw_rv C hJ hS (Nat.le_refl _) (Nat.le_refl _) dX4_removeNodesOfSession_26
theorem moX4_removeNodesOfSession (h0 : Nat) (x1 : Option Nat) (x2 : Option Nat) : jm_Mo (fX4_removeNodesOfSession h0 x1 x2) := by
  unfold fX4_removeNodesOfSession
  exact moX4_removeNodesOfSession_2 _ _ _ _ _
set_option maxHeartbeats 4000000 in
set_option maxRecDepth 100000 in
theorem kX4_removeNodesOfSession {rv : Unit} {Sf : jm_S} (C : jm_C G cX4_removeNodesOfSession 5 RX4 wsX4_removeNodesOfSession (none) p s m args meth c) : ∀ (h0 : Nat) (x1 : Option Nat) (x2 : Option Nat) {S : jm_S} {H : Heap} {locs : List Loc} {ls : Array Slot}, fX4_removeNodesOfSession h0 x1 x2 S = some (rv, Sf) → jm_J G S H → va_S (jm_A G) s.heap H locs → jm_L ls 5 [(0, .inr (some h0)), (1, .inr x1), (2, .inr x2)] → W p l e ({ frames := 4, cells := 0, slots := 0, locals := 112 } : Room) s m args below meth c H locs 0 0 (MQ below (jm_Q G (none) Sf) args s 0 0 (jm_A G)) (F0 m 0 ls []) := by
  intro h0 x1 x2 S H locs ls hf hJ hS hl
  unfold fX4_removeNodesOfSession at hf
  refine lv_iconst (v := 0) C.1 C.2.1 dX4_removeNodesOfSession_0 (by decide) ?_
  refine jw_istore_n C dX4_removeNodesOfSession_1 rfl hl (by decide) rfl (fun ls hl => ?_)
  exact kX4_removeNodesOfSession_2 C 4096 h0 x1 x2 0 hf hJ hS (hl.sub [1, 2, 3, 0] rfl)
set_option maxHeartbeats 4000000 in
set_option maxRecDepth 100000 in
theorem cX4_removeNodesOfSession_C (l : Launch) (G : jm_G) (h0 : Nat) (x1 : Option Nat) (x2 : Option Nat) {S Sf : jm_S} {rv : Unit} (hf : fX4_removeNodesOfSession h0 x1 x2 S = some (rv, Sf)) : Met l yX4_removeNodesOfSession wsX4_removeNodesOfSession ({ frames := 4, cells := 0, slots := 0, locals := 112 } : Room) (jm_Pc G S [.ref h0, va_rf x1, va_rf x2]) (jm_Q G (none) Sf) 0 0 (jm_A G) := by
  refine Met.ofW (cc := cX4_removeNodesOfSession) (maxL := 5) (ret := none) (by decide) rfl ?_
  intro p e s m args below meth c s₁ B hml hv
  obtain ⟨rfl, hJ, hX⟩ := hv
  have C : jm_C G cX4_removeNodesOfSession 5 RX4 wsX4_removeNodesOfSession (none) p s m _ meth c := ⟨B.exec, B.bytes, hml, findClass_of_methodNamed B.named, atoms_spec (ws := wsX4_removeNodesOfSession) B.pre, B.returns, B.notSynchronized, hX⟩
  obtain ⟨ls, he, hl⟩ := jm_entry m [.inr (some h0), .inr x1, .inr x2] (n := 5) (Nat.le_of_ble_eq_true rfl)
  have he : entryFrame m ([.ref h0, va_rf x1, va_rf x2] : List Value).toArray 5 = F0 m 0 ls [] := he
  rw [he]
  exact kX4_removeNodesOfSession C h0 x1 x2 hf hJ va_S.rf (hl.sub [0, 1, 2] rfl)
/-! CoordinationService$Tree.carryOut -/
def fX4_carryOut (h0 : Nat) (x1 : Option Nat) (x2 : Option Nat) : jm_P Unit := jm_rd (jm_gI x1 4 1) fun v1 => (if v1 = 0 then jm_rd (jm_o (some h0) 5) fun a3 => jm_bd (fX4_addNode a3 x1 x2) fun _ => jm_ret () else (if v1 = 1 then jm_rd (jm_o (some h0) 5) fun a4 => jm_bd (fX4_changeNode a4 x1 x2) fun _ => jm_ret () else (if v1 = 2 then jm_rd (jm_o (some h0) 5) fun a5 => jm_bd (fX4_removeNode a5 x1 x2) fun _ => jm_ret () else jm_rd (jm_o (some h0) 5) fun a6 => jm_bd (fX4_removeNodesOfSession a6 x1 x2) fun _ => jm_ret ())))
theorem inX4_carryOut_X3 : ∀ w ∈ wsX30, w ∈ wsX4_carryOut := fun _ h => List.mem_cons_of_mem _ (List.mem_append_left _ (List.mem_append_left _ (List.mem_append_left _ (List.mem_append_left _ (List.mem_append_left _ (List.mem_append_left _ (List.mem_append_right _ h)))))))
theorem moX4_carryOut (h0 : Nat) (x1 : Option Nat) (x2 : Option Nat) : jm_Mo (fX4_carryOut h0 x1 x2) := by
  unfold fX4_carryOut
  exact jm_Mo_rd (fun _ => jm_Mo_if (jm_Mo_rd (fun _ => jm_Mo_bd (moX4_addNode _ _ _) (fun _ => jm_Mo_ret _))) (jm_Mo_if (jm_Mo_rd (fun _ => jm_Mo_bd (moX4_changeNode _ _ _) (fun _ => jm_Mo_ret _))) (jm_Mo_if (jm_Mo_rd (fun _ => jm_Mo_bd (moX4_removeNode _ _ _) (fun _ => jm_Mo_ret _))) (jm_Mo_rd (fun _ => jm_Mo_bd (moX4_removeNodesOfSession _ _ _) (fun _ => jm_Mo_ret _))))))
set_option maxHeartbeats 4000000 in
set_option maxRecDepth 100000 in
theorem kX4_carryOut {rv : Unit} {Sf : jm_S} (C : jm_C G cX4_carryOut 3 RX4 wsX4_carryOut (none) p s m args meth c) : ∀ (h0 : Nat) (x1 : Option Nat) (x2 : Option Nat) {S : jm_S} {H : Heap} {locs : List Loc} {ls : Array Slot}, fX4_carryOut h0 x1 x2 S = some (rv, Sf) → jm_J G S H → va_S (jm_A G) s.heap H locs → jm_L ls 3 [(0, .inr (some h0)), (1, .inr x1), (2, .inr x2)] → W p l e ({ frames := 5, cells := 0, slots := 0, locals := 136 } : Room) s m args below meth c H locs 0 0 (MQ below (jm_Q G (none) Sf) args s 0 0 (jm_A G)) (F0 m 0 ls []) := by
  intro h0 x1 x2 S H locs ls hf hJ hS hl
  unfold fX4_carryOut at hf
  refine jw_aload_n C dX4_carryOut_0 rfl (hl.at 1 rfl) ?_
  obtain ⟨v1, h1, hf⟩ := jm_rd_ok hf
  refine jw_gI (Cn := RX3) (T := TX3) (N := 5) C hJ h1 rfl inX4_carryOut_X3 (by decide) (jm_w C 1 rfl) (fun _ h => h) dX4_carryOut_1 ?_
  by_cases hs2_0 : v1 = 0
  · replace hf := jm_ift hf hs2_0
    refine lv_tableIn (off := 28) (tgt := 32) C.1 C.2.1 dX4_carryOut_4 (by rw [hs2_0]; decide) (by rw [hs2_0]; decide) (by rw [hs2_0]; rfl) (by decide) ?_
    refine jw_aload_n C dX4_carryOut_32 rfl (hl.at 0 rfl) ?_
    refine jw_aload_n C dX4_carryOut_33 rfl (hl.at 1 rfl) ?_
    refine jw_aload_n C dX4_carryOut_34 rfl (hl.at 2 rfl) ?_
    obtain ⟨a3, o3, hf⟩ := jm_rd_ok hf
    obtain ⟨v3, S3, h3, hf⟩ := jm_bd_ok hf
    refine jw_cV (q := (RX4, TX4, 2)) C hJ hS o3 rfl (cX4_addNode_C l G a3 x1 x2 h3) (cwV 2 C.2.2.2.2.1 gX4_carryOut_X4_addNode rfl rfl rfl (by decide +kernel) ⟨Nat.le_of_ble_eq_true rfl, Nat.le_of_ble_eq_true rfl⟩) rfl hl.1 rfl (Nat.le_of_ble_eq_true rfl) dX4_carryOut_35 ⟨Nat.le_refl _, Nat.le_refl _⟩ (fun H locs hJ hS => ?_)
    refine lv_goto (tgt := 65) C.1 C.2.1 dX4_carryOut_38 (by decide) ?_
    obtain ⟨rfl, rfl⟩ := jm_ret_ok hf
    exact jw_rv C hJ hS (Nat.le_refl _) (Nat.le_refl _) dX4_carryOut_65
  replace hf := jm_iff hf hs2_0
  by_cases hs2_1 : v1 = 1
  · replace hf := jm_ift hf hs2_1
    refine lv_tableIn (off := 37) (tgt := 41) C.1 C.2.1 dX4_carryOut_4 (by rw [hs2_1]; decide) (by rw [hs2_1]; decide) (by rw [hs2_1]; rfl) (by decide) ?_
    refine jw_aload_n C dX4_carryOut_41 rfl (hl.at 0 rfl) ?_
    refine jw_aload_n C dX4_carryOut_42 rfl (hl.at 1 rfl) ?_
    refine jw_aload_n C dX4_carryOut_43 rfl (hl.at 2 rfl) ?_
    obtain ⟨a4, o4, hf⟩ := jm_rd_ok hf
    obtain ⟨v4, S4, h4, hf⟩ := jm_bd_ok hf
    refine jw_cV (q := (RX4, TX4, 2)) C hJ hS o4 rfl (cX4_changeNode_C l G a4 x1 x2 h4) (cwV 2 C.2.2.2.2.1 gX4_carryOut_X4_changeNode rfl rfl rfl (by decide +kernel) ⟨Nat.le_of_ble_eq_true rfl, Nat.le_of_ble_eq_true rfl⟩) rfl hl.1 rfl (Nat.le_of_ble_eq_true rfl) dX4_carryOut_44 ⟨Nat.le_refl _, Nat.le_refl _⟩ (fun H locs hJ hS => ?_)
    refine lv_goto (tgt := 65) C.1 C.2.1 dX4_carryOut_47 (by decide) ?_
    obtain ⟨rfl, rfl⟩ := jm_ret_ok hf
    exact jw_rv C hJ hS (Nat.le_refl _) (Nat.le_refl _) dX4_carryOut_65
  replace hf := jm_iff hf hs2_1
  by_cases hs2_2 : v1 = 2
  · replace hf := jm_ift hf hs2_2
    refine lv_tableIn (off := 46) (tgt := 50) C.1 C.2.1 dX4_carryOut_4 (by rw [hs2_2]; decide) (by rw [hs2_2]; decide) (by rw [hs2_2]; rfl) (by decide) ?_
    refine jw_aload_n C dX4_carryOut_50 rfl (hl.at 0 rfl) ?_
    refine jw_aload_n C dX4_carryOut_51 rfl (hl.at 1 rfl) ?_
    refine jw_aload_n C dX4_carryOut_52 rfl (hl.at 2 rfl) ?_
    obtain ⟨a5, o5, hf⟩ := jm_rd_ok hf
    obtain ⟨v5, S5, h5, hf⟩ := jm_bd_ok hf
    refine jw_cV (q := (RX4, TX4, 2)) C hJ hS o5 rfl (cX4_removeNode_C l G a5 x1 x2 h5) (cwV 2 C.2.2.2.2.1 gX4_carryOut_X4_removeNode rfl rfl rfl (by decide +kernel) ⟨Nat.le_of_ble_eq_true rfl, Nat.le_of_ble_eq_true rfl⟩) rfl hl.1 rfl (Nat.le_of_ble_eq_true rfl) dX4_carryOut_53 ⟨Nat.le_refl _, Nat.le_refl _⟩ (fun H locs hJ hS => ?_)
    refine lv_goto (tgt := 65) C.1 C.2.1 dX4_carryOut_56 (by decide) ?_
    obtain ⟨rfl, rfl⟩ := jm_ret_ok hf
    exact jw_rv C hJ hS (Nat.le_refl _) (Nat.le_refl _) dX4_carryOut_65
  replace hf := jm_iff hf hs2_2
  refine lv_tableOut (tgt := 59) C.1 C.2.1 dX4_carryOut_4 (jm_out3 hs2_0 hs2_1 hs2_2) (by decide) ?_
  refine jw_aload_n C dX4_carryOut_59 rfl (hl.at 0 rfl) ?_
  refine jw_aload_n C dX4_carryOut_60 rfl (hl.at 1 rfl) ?_
  refine jw_aload_n C dX4_carryOut_61 rfl (hl.at 2 rfl) ?_
  obtain ⟨a6, o6, hf⟩ := jm_rd_ok hf
  obtain ⟨v6, S6, h6, hf⟩ := jm_bd_ok hf
  refine jw_cV (q := (RX4, TX4, 2)) C hJ hS o6 rfl (cX4_removeNodesOfSession_C l G a6 x1 x2 h6) (cwV 2 C.2.2.2.2.1 gX4_carryOut_X4_removeNodesOfSession rfl rfl rfl (by decide +kernel) ⟨Nat.le_of_ble_eq_true rfl, Nat.le_of_ble_eq_true rfl⟩) rfl hl.1 rfl (Nat.le_of_ble_eq_true rfl) dX4_carryOut_62 ⟨Nat.le_refl _, Nat.le_refl _⟩ (fun H locs hJ hS => ?_)
  obtain ⟨rfl, rfl⟩ := jm_ret_ok hf
  exact jw_rv C hJ hS (Nat.le_refl _) (Nat.le_refl _) dX4_carryOut_65
set_option maxHeartbeats 4000000 in
set_option maxRecDepth 100000 in
theorem cX4_carryOut_C (l : Launch) (G : jm_G) (h0 : Nat) (x1 : Option Nat) (x2 : Option Nat) {S Sf : jm_S} {rv : Unit} (hf : fX4_carryOut h0 x1 x2 S = some (rv, Sf)) : Met l yX4_carryOut wsX4_carryOut ({ frames := 5, cells := 0, slots := 0, locals := 136 } : Room) (jm_Pc G S [.ref h0, va_rf x1, va_rf x2]) (jm_Q G (none) Sf) 0 0 (jm_A G) := by
  refine Met.ofW (cc := cX4_carryOut) (maxL := 3) (ret := none) (by decide) rfl ?_
  intro p e s m args below meth c s₁ B hml hv
  obtain ⟨rfl, hJ, hX⟩ := hv
  have C : jm_C G cX4_carryOut 3 RX4 wsX4_carryOut (none) p s m _ meth c := ⟨B.exec, B.bytes, hml, findClass_of_methodNamed B.named, atoms_spec (ws := wsX4_carryOut) B.pre, B.returns, B.notSynchronized, hX⟩
  obtain ⟨ls, he, hl⟩ := jm_entry m [.inr (some h0), .inr x1, .inr x2] (n := 3) (Nat.le_of_ble_eq_true rfl)
  have he : entryFrame m ([.ref h0, va_rf x1, va_rf x2] : List Value).toArray 3 = F0 m 0 ls [] := he
  rw [he]
  exact kX4_carryOut C h0 x1 x2 hf hJ va_S.rf (hl.sub [0, 1, 2] rfl)
/-! CoordinationService$Server.applyUpTo -/
def fX1_applyUpTo_22 : Nat → Nat → Option Nat → Int32 → Int32 → Int32 → jm_P Int32
  | 0, _, _, _, _, _ => jm_no
  | n + 1, h0, x2, x3, x4, x5 => (if x3 ≤ x5 then jm_rd (jm_gI (some h0) 2 6) fun v6 => jm_ret (v6 - x4) else jm_rd (jm_gR (some h0) 2 1) fun v7 => jm_rd (jm_gR (some h0) 2 2) fun v8 => jm_rd (jm_o v8 0) fun a9 => jm_bd (fJx4a65c_get_915e3 a9 x5) fun v9 => jm_rd (jm_ck v9 4) fun _ => jm_rd (jm_o v7 5) fun a11 => jm_bd (fX4_carryOut a11 v9 x2) fun _ => jm_wr (jm_p (some h0) 2 6 (.inl (x5 + 1))) <| fX1_applyUpTo_22 n h0 x2 x3 x4 (x5 + 1))
def fX1_applyUpTo (h0 : Nat) (x1 : Int32) (x2 : Option Nat) : jm_P Int32 := jm_rd (jm_gR (some h0) 2 2) fun v1 => jm_rd (jm_o v1 0) fun a2 => jm_bd (fJx4a65c_size_8abf5 a2) fun v2 => jm_rd (jm_gI (some h0) 2 6) fun v4 => fX1_applyUpTo_22 4096 h0 x2 (if v2 < x1 then v2 else x1) v4 v4
theorem inX1_applyUpTo_X1 : ∀ w ∈ wsX10, w ∈ wsX1_applyUpTo := fun _ h => List.mem_cons_of_mem _ (List.mem_append_left _ (List.mem_append_left _ (List.mem_append_left _ (List.mem_append_left _ (List.mem_append_left _ (List.mem_append_left _ (List.mem_append_left _ (List.mem_append_right _ h))))))))
theorem moX1_applyUpTo_22 : ∀ (n : Nat) (h0 : Nat) (x2 : Option Nat) (x3 : Int32) (x4 : Int32) (x5 : Int32), jm_Mo (fX1_applyUpTo_22 n h0 x2 x3 x4 x5) := by
  intro n
  induction n with
  | zero =>
    intro h0 x2 x3 x4 x5
    rw [fX1_applyUpTo_22]
    exact jm_Mo_no
  | succ n ih =>
    intro h0 x2 x3 x4 x5
    rw [fX1_applyUpTo_22]
    exact jm_Mo_if (jm_Mo_rd (fun _ => jm_Mo_ret _)) (jm_Mo_rd (fun _ => jm_Mo_rd (fun _ => jm_Mo_rd (fun _ => jm_Mo_bd (moJx4a65c_get_915e3 _ _) (fun _ => jm_Mo_rd (fun _ => jm_Mo_rd (fun _ => jm_Mo_bd (moX4_carryOut _ _ _) (fun _ => jm_Mo_wr jm_p_st (ih _ _ _ _ _)))))))))
set_option maxHeartbeats 4000000 in
set_option maxRecDepth 100000 in
theorem kX1_applyUpTo_22 {rv : Int32} {Sf : jm_S} (C : jm_C G cX1_applyUpTo 6 RX1 wsX1_applyUpTo ((some .int)) p s m args meth c) : ∀ (n : Nat) (h0 : Nat) (x2 : Option Nat) (x3 : Int32) (x4 : Int32) (x5 : Int32) {S : jm_S} {H : Heap} {locs : List Loc} {ls : Array Slot}, fX1_applyUpTo_22 n h0 x2 x3 x4 x5 S = some (rv, Sf) → jm_J G S H → va_S (jm_A G) s.heap H locs → jm_L ls 6 [(0, .inr (some h0)), (2, .inr x2), (3, .inl x3), (4, .inl x4), (5, .inl x5)] → W p l e ({ frames := 6, cells := 0, slots := 0, locals := 158 } : Room) s m args below meth c H locs 0 0 (MQ below (jm_Q G (some (.int rv)) Sf) args s 0 0 (jm_A G)) (F0 m 22 ls []) := by
  intro n
  induction n with
  | zero =>
    intro h0 x2 x3 x4 x5 S H locs ls hf
    rw [fX1_applyUpTo_22] at hf
    exact absurd hf (fun h => jm_no_ok h)
  | succ n ih =>
    intro h0 x2 x3 x4 x5 S H locs ls hf hJ hS hl
    rw [fX1_applyUpTo_22] at hf
    refine lv_iload C.1 C.2.1 dX1_applyUpTo_22 (hl.at 4 rfl) ?_
    refine lv_iload_n C.1 C.2.1 dX1_applyUpTo_24 rfl (hl.at 2 rfl) ?_
    refine lv_icmp_ge (tgt := 62) C.1 C.2.1 dX1_applyUpTo_25 (by decide) (fun hq5 => ?_) (fun hq5 => ?_)
    · replace hf := jm_ift hf hq5
      refine jw_aload_n C dX1_applyUpTo_62 rfl (hl.at 0 rfl) ?_
      obtain ⟨v6, h6, hf⟩ := jm_rd_ok hf
      refine jw_gI (Cn := RX1) (T := TX1) (N := 7) C hJ h6 rfl inX1_applyUpTo_X1 (by decide) (jm_w C 6 rfl) (fun _ h => h) dX1_applyUpTo_63 ?_
      refine lv_iload C.1 C.2.1 dX1_applyUpTo_66 (hl.at 3 rfl) ?_
      refine lv_isub C.1 C.2.1 dX1_applyUpTo_68 ?_
      obtain ⟨rfl, rfl⟩ := jm_ret_ok hf
      exact jw_ri C hJ hS (Nat.le_refl _) (Nat.le_refl _) dX1_applyUpTo_69
    · replace hf := jm_iff hf hq5
      refine jw_aload_n C dX1_applyUpTo_28 rfl (hl.at 0 rfl) ?_
      obtain ⟨v7, h7, hf⟩ := jm_rd_ok hf
      refine jw_gR (Cn := RX1) (T := TX1) (N := 7) C hJ h7 rfl inX1_applyUpTo_X1 (by decide) (jm_w C 7 rfl) (fun _ h => h) dX1_applyUpTo_29 ?_
      refine jw_aload_n C dX1_applyUpTo_32 rfl (hl.at 0 rfl) ?_
      obtain ⟨v8, h8, hf⟩ := jm_rd_ok hf
      refine jw_gR (Cn := RX1) (T := TX1) (N := 7) C hJ h8 rfl inX1_applyUpTo_X1 (by decide) (jm_w C 1 rfl) (fun _ h => h) dX1_applyUpTo_33 ?_
      refine lv_iload C.1 C.2.1 dX1_applyUpTo_36 (hl.at 4 rfl) ?_
      obtain ⟨a9, o9, hf⟩ := jm_rd_ok hf
      obtain ⟨v9, S9, h9, hf⟩ := jm_bd_ok hf
      refine jw_cV (q := (RJx4a65c, TJx4a65c, 3)) C hJ hS o9 rfl (cJx4a65c_get_915e3_C l G a9 x5 h9) (cwV 1 C.2.2.2.2.1 gX1_applyUpTo_Jx4a65c_get_915e3 rfl rfl rfl (by decide +kernel) ⟨Nat.le_of_ble_eq_true rfl, Nat.le_of_ble_eq_true rfl⟩) rfl hl.1 rfl (Nat.le_of_ble_eq_true rfl) dX1_applyUpTo_38 ⟨Nat.le_refl _, Nat.le_refl _⟩ (fun H locs hJ hS => ?_)
      obtain ⟨u10, h10, hf⟩ := jm_rd_ok hf
      refine jw_ck (q := (RX3, TX3, 5)) C hJ h10 rfl (jm_w C 8 rfl) dX1_applyUpTo_41 ?_
      refine jw_aload_n C dX1_applyUpTo_44 rfl (hl.at 1 rfl) ?_
      obtain ⟨a11, o11, hf⟩ := jm_rd_ok hf
      obtain ⟨v11, S11, h11, hf⟩ := jm_bd_ok hf
      refine jw_cV (q := (RX4, TX4, 2)) C hJ hS o11 rfl (cX4_carryOut_C l G a11 v9 x2 h11) (cwV 2 C.2.2.2.2.1 gX1_applyUpTo_X4_carryOut rfl rfl rfl (by decide +kernel) ⟨Nat.le_of_ble_eq_true rfl, Nat.le_of_ble_eq_true rfl⟩) rfl hl.1 rfl (Nat.le_of_ble_eq_true rfl) dX1_applyUpTo_45 ⟨Nat.le_refl _, Nat.le_refl _⟩ (fun H locs hJ hS => ?_)
      refine jw_aload_n C dX1_applyUpTo_48 rfl (hl.at 0 rfl) ?_
      refine lv_iload C.1 C.2.1 dX1_applyUpTo_49 (hl.at 4 rfl) ?_
      refine lv_iconst (v := 1) C.1 C.2.1 dX1_applyUpTo_51 (by decide) ?_
      refine lv_iadd C.1 C.2.1 dX1_applyUpTo_52 ?_
      obtain ⟨S12, h12, hf⟩ := jm_wr_ok hf
      refine jw_p (x := .inl (x5 + 1)) (ty := .int) (Cn := RX1) (T := TX1) (N := 7) C hJ hS h12 rfl inX1_applyUpTo_X1 tyX1 tyX1_ok nmX1 (by decide) (jm_w C 6 rfl) (fun _ h => h) rfl (by decide +kernel) rfl rfl dX1_applyUpTo_53 (fun H locs hJ hS => ?_)
      refine jw_iinc (v := x5 + 1) C 4 dX1_applyUpTo_56 hl rfl (by rfl) (by decide) rfl (fun ls hl => ?_)
      refine lv_goto (tgt := 22) C.1 C.2.1 dX1_applyUpTo_59 (by decide) ?_
      exact ih h0 x2 x3 x4 (x5 + 1) hf hJ hS (hl.sub [1, 2, 3, 4, 0] rfl)
theorem moX1_applyUpTo (h0 : Nat) (x1 : Int32) (x2 : Option Nat) : jm_Mo (fX1_applyUpTo h0 x1 x2) := by
  unfold fX1_applyUpTo
  exact jm_Mo_rd (fun _ => jm_Mo_rd (fun _ => jm_Mo_bd (moJx4a65c_size_8abf5 _) (fun _ => jm_Mo_rd (fun _ => moX1_applyUpTo_22 _ _ _ _ _ _))))
set_option maxHeartbeats 4000000 in
set_option maxRecDepth 100000 in
theorem kX1_applyUpTo {rv : Int32} {Sf : jm_S} (C : jm_C G cX1_applyUpTo 6 RX1 wsX1_applyUpTo ((some .int)) p s m args meth c) : ∀ (h0 : Nat) (x1 : Int32) (x2 : Option Nat) {S : jm_S} {H : Heap} {locs : List Loc} {ls : Array Slot}, fX1_applyUpTo h0 x1 x2 S = some (rv, Sf) → jm_J G S H → va_S (jm_A G) s.heap H locs → jm_L ls 6 [(0, .inr (some h0)), (1, .inl x1), (2, .inr x2)] → W p l e ({ frames := 6, cells := 0, slots := 0, locals := 158 } : Room) s m args below meth c H locs 0 0 (MQ below (jm_Q G (some (.int rv)) Sf) args s 0 0 (jm_A G)) (F0 m 0 ls []) := by
  intro h0 x1 x2 S H locs ls hf hJ hS hl
  unfold fX1_applyUpTo at hf
  refine lv_iload_n C.1 C.2.1 dX1_applyUpTo_0 rfl (hl.at 1 rfl) ?_
  refine jw_aload_n C dX1_applyUpTo_1 rfl (hl.at 0 rfl) ?_
  obtain ⟨v1, h1, hf⟩ := jm_rd_ok hf
  refine jw_gR (Cn := RX1) (T := TX1) (N := 7) C hJ h1 rfl inX1_applyUpTo_X1 (by decide) (jm_w C 1 rfl) (fun _ h => h) dX1_applyUpTo_2 ?_
  obtain ⟨a2, o2, hf⟩ := jm_rd_ok hf
  obtain ⟨v2, S2, h2, hf⟩ := jm_bd_ok hf
  refine jw_cV (q := (RJx4a65c, TJx4a65c, 3)) C hJ hS o2 rfl (cJx4a65c_size_8abf5_C l G a2 h2) (cwV 0 C.2.2.2.2.1 gX1_applyUpTo_Jx4a65c_size_8abf5 rfl rfl rfl (by decide +kernel) ⟨Nat.le_of_ble_eq_true rfl, Nat.le_of_ble_eq_true rfl⟩) rfl hl.1 rfl (Nat.le_of_ble_eq_true rfl) dX1_applyUpTo_5 ⟨Nat.le_refl _, Nat.le_refl _⟩ (fun H locs hJ hS => ?_)
  refine va_mmin C.1 C.2.1 (by rw [C.2.2.1]; exact hl.1.symm) C.2.2.2.1 (jm_w C 2 rfl) (jm_w C 3 rfl) (jm_w C 4 rfl) (jm_w C 5 rfl) (Nat.le_of_ble_eq_true rfl) (jm_w8r _ (Nat.le_of_ble_eq_true rfl) (Nat.le_of_ble_eq_true rfl)) (Nat.le_refl _) (Nat.le_refl _) dX1_applyUpTo_8 ?_
  refine jw_istore_n C dX1_applyUpTo_11 rfl hl (by decide) rfl (fun ls hl => ?_)
  refine jw_aload_n C dX1_applyUpTo_12 rfl (hl.at 1 rfl) ?_
  obtain ⟨v4, h4, hf⟩ := jm_rd_ok hf
  refine jw_gI (Cn := RX1) (T := TX1) (N := 7) C hJ h4 rfl inX1_applyUpTo_X1 (by decide) (jm_w C 6 rfl) (fun _ h => h) dX1_applyUpTo_13 ?_
  refine jw_istore C dX1_applyUpTo_16 hl (by decide) rfl (fun ls hl => ?_)
  refine lv_iload C.1 C.2.1 dX1_applyUpTo_18 (hl.at 0 rfl) ?_
  refine jw_istore C dX1_applyUpTo_20 hl (by decide) rfl (fun ls hl => ?_)
  exact kX1_applyUpTo_22 C 4096 h0 x2 (if v2 < x1 then v2 else x1) v4 v4 hf hJ hS (hl.sub [3, 5, 2, 1, 0] rfl)
set_option maxHeartbeats 4000000 in
set_option maxRecDepth 100000 in
theorem cX1_applyUpTo_C (l : Launch) (G : jm_G) (h0 : Nat) (x1 : Int32) (x2 : Option Nat) {S Sf : jm_S} {rv : Int32} (hf : fX1_applyUpTo h0 x1 x2 S = some (rv, Sf)) : Met l yX1_applyUpTo wsX1_applyUpTo ({ frames := 6, cells := 0, slots := 0, locals := 158 } : Room) (jm_Pc G S [.ref h0, .int x1, va_rf x2]) (jm_Q G (some (.int rv)) Sf) 0 0 (jm_A G) := by
  refine Met.ofW (cc := cX1_applyUpTo) (maxL := 6) (ret := (some .int)) (by decide) rfl ?_
  intro p e s m args below meth c s₁ B hml hv
  obtain ⟨rfl, hJ, hX⟩ := hv
  have C : jm_C G cX1_applyUpTo 6 RX1 wsX1_applyUpTo ((some .int)) p s m _ meth c := ⟨B.exec, B.bytes, hml, findClass_of_methodNamed B.named, atoms_spec (ws := wsX1_applyUpTo) B.pre, B.returns, B.notSynchronized, hX⟩
  obtain ⟨ls, he, hl⟩ := jm_entry m [.inr (some h0), .inl x1, .inr x2] (n := 6) (Nat.le_of_ble_eq_true rfl)
  have he : entryFrame m ([.ref h0, .int x1, va_rf x2] : List Value).toArray 6 = F0 m 0 ls [] := he
  rw [he]
  exact kX1_applyUpTo C h0 x1 x2 hf hJ va_S.rf (hl.sub [0, 1, 2] rfl)
/-! CoordinationService.proposeLogAgain -/
def fX7_proposeLogAgain_9 : Nat → Nat → Option Nat → Int32 → jm_P Unit
  | 0, _, _, _ => jm_no
  | n + 1, h0, x1, x2 => jm_rd (jm_gR x1 2 2) fun v3 => jm_rd (jm_o v3 0) fun a4 => jm_bd (fJx4a65c_size_8abf5 a4) fun v4 => (if v4 ≤ x2 then jm_ret () else jm_rd (jm_gR (some h0) 8 3) fun v6 => jm_rd (jm_gR x1 2 2) fun v7 => jm_rd (jm_o v7 0) fun a8 => jm_bd (fJx4a65c_get_915e3 a8 x2) fun v8 => jm_rd (jm_ck v8 4) fun _ => jm_rd (jm_gR (some h0) 8 2) fun v10 => jm_rd (jm_o v6 5) fun a11 => jm_bd (fX4_carryOut a11 v8 v10) fun _ => fX7_proposeLogAgain_9 n h0 x1 (x2 + 1))
def fX7_proposeLogAgain (h0 : Nat) (x1 : Option Nat) : jm_P Unit := jm_rd (jm_gR (some h0) 8 3) fun v1 => jm_rd (jm_o v1 5) fun a2 => jm_bd (fX4_clear a2) fun _ => fX7_proposeLogAgain_9 4096 h0 x1 0
theorem inX7_proposeLogAgain_X7 : ∀ w ∈ wsX70, w ∈ wsX7_proposeLogAgain := fun _ h => List.mem_cons_of_mem _ (List.mem_append_left _ (List.mem_append_left _ (List.mem_append_left _ (List.mem_append_left _ (List.mem_append_left _ (List.mem_append_left _ (List.mem_append_left _ (List.mem_append_left _ (List.mem_append_right _ h)))))))))
theorem inX7_proposeLogAgain_X1 : ∀ w ∈ wsX10, w ∈ wsX7_proposeLogAgain := fun _ h => List.mem_cons_of_mem _ (List.mem_append_left _ (List.mem_append_left _ (List.mem_append_left _ (List.mem_append_left _ (List.mem_append_left _ (List.mem_append_left _ (List.mem_append_left _ (List.mem_append_right _ h))))))))
theorem moX7_proposeLogAgain_9 : ∀ (n : Nat) (h0 : Nat) (x1 : Option Nat) (x2 : Int32), jm_Mo (fX7_proposeLogAgain_9 n h0 x1 x2) := by
  intro n
  induction n with
  | zero =>
    intro h0 x1 x2
    rw [fX7_proposeLogAgain_9]
    exact jm_Mo_no
  | succ n ih =>
    intro h0 x1 x2
    rw [fX7_proposeLogAgain_9]
    exact jm_Mo_rd (fun _ => jm_Mo_rd (fun _ => jm_Mo_bd (moJx4a65c_size_8abf5 _) (fun _ => jm_Mo_if (jm_Mo_ret _) (jm_Mo_rd (fun _ => jm_Mo_rd (fun _ => jm_Mo_rd (fun _ => jm_Mo_bd (moJx4a65c_get_915e3 _ _) (fun _ => jm_Mo_rd (fun _ => jm_Mo_rd (fun _ => jm_Mo_rd (fun _ => jm_Mo_bd (moX4_carryOut _ _ _) (fun _ => ih _ _ _))))))))))))
set_option maxHeartbeats 4000000 in
set_option maxRecDepth 100000 in
theorem kX7_proposeLogAgain_9 {rv : Unit} {Sf : jm_S} (C : jm_C G cX7_proposeLogAgain 3 RX7 wsX7_proposeLogAgain (none) p s m args meth c) : ∀ (n : Nat) (h0 : Nat) (x1 : Option Nat) (x2 : Int32) {S : jm_S} {H : Heap} {locs : List Loc} {ls : Array Slot}, fX7_proposeLogAgain_9 n h0 x1 x2 S = some (rv, Sf) → jm_J G S H → va_S (jm_A G) s.heap H locs → jm_L ls 3 [(0, .inr (some h0)), (1, .inr x1), (2, .inl x2)] → W p l e ({ frames := 6, cells := 0, slots := 0, locals := 158 } : Room) s m args below meth c H locs 0 0 (MQ below (jm_Q G (none) Sf) args s 0 0 (jm_A G)) (F0 m 9 ls []) := by
  intro n
  induction n with
  | zero =>
    intro h0 x1 x2 S H locs ls hf
    rw [fX7_proposeLogAgain_9] at hf
    exact absurd hf (fun h => jm_no_ok h)
  | succ n ih =>
    intro h0 x1 x2 S H locs ls hf hJ hS hl
    rw [fX7_proposeLogAgain_9] at hf
    refine lv_iload_n C.1 C.2.1 dX7_proposeLogAgain_9 rfl (hl.at 2 rfl) ?_
    refine jw_aload_n C dX7_proposeLogAgain_10 rfl (hl.at 1 rfl) ?_
    obtain ⟨v3, h3, hf⟩ := jm_rd_ok hf
    refine jw_gR (Cn := RX1) (T := TX1) (N := 7) C hJ h3 rfl inX7_proposeLogAgain_X1 (by decide) (jm_w C 2 rfl) (fun _ h => h) dX7_proposeLogAgain_11 ?_
    obtain ⟨a4, o4, hf⟩ := jm_rd_ok hf
    obtain ⟨v4, S4, h4, hf⟩ := jm_bd_ok hf
    refine jw_cV (q := (RJx4a65c, TJx4a65c, 3)) C hJ hS o4 rfl (cJx4a65c_size_8abf5_C l G a4 h4) (cwV 0 C.2.2.2.2.1 gX7_proposeLogAgain_Jx4a65c_size_8abf5 rfl rfl rfl (by decide +kernel) ⟨Nat.le_of_ble_eq_true rfl, Nat.le_of_ble_eq_true rfl⟩) rfl hl.1 rfl (Nat.le_of_ble_eq_true rfl) dX7_proposeLogAgain_14 ⟨Nat.le_refl _, Nat.le_refl _⟩ (fun H locs hJ hS => ?_)
    refine lv_icmp_ge (tgt := 48) C.1 C.2.1 dX7_proposeLogAgain_17 (by decide) (fun hq5 => ?_) (fun hq5 => ?_)
    · replace hf := jm_ift hf hq5
      obtain ⟨rfl, rfl⟩ := jm_ret_ok hf
      exact jw_rv C hJ hS (Nat.le_refl _) (Nat.le_refl _) dX7_proposeLogAgain_48
    · replace hf := jm_iff hf hq5
      refine jw_aload_n C dX7_proposeLogAgain_20 rfl (hl.at 0 rfl) ?_
      obtain ⟨v6, h6, hf⟩ := jm_rd_ok hf
      refine jw_gR (Cn := RX7) (T := TX7) (N := 12) C hJ h6 rfl inX7_proposeLogAgain_X7 (by decide) (jm_w C 1 rfl) (fun _ h => h) dX7_proposeLogAgain_21 ?_
      refine jw_aload_n C dX7_proposeLogAgain_24 rfl (hl.at 1 rfl) ?_
      obtain ⟨v7, h7, hf⟩ := jm_rd_ok hf
      refine jw_gR (Cn := RX1) (T := TX1) (N := 7) C hJ h7 rfl inX7_proposeLogAgain_X1 (by decide) (jm_w C 2 rfl) (fun _ h => h) dX7_proposeLogAgain_25 ?_
      refine lv_iload_n C.1 C.2.1 dX7_proposeLogAgain_28 rfl (hl.at 2 rfl) ?_
      obtain ⟨a8, o8, hf⟩ := jm_rd_ok hf
      obtain ⟨v8, S8, h8, hf⟩ := jm_bd_ok hf
      refine jw_cV (q := (RJx4a65c, TJx4a65c, 3)) C hJ hS o8 rfl (cJx4a65c_get_915e3_C l G a8 x2 h8) (cwV 1 C.2.2.2.2.1 gX7_proposeLogAgain_Jx4a65c_get_915e3 rfl rfl rfl (by decide +kernel) ⟨Nat.le_of_ble_eq_true rfl, Nat.le_of_ble_eq_true rfl⟩) rfl hl.1 rfl (Nat.le_of_ble_eq_true rfl) dX7_proposeLogAgain_29 ⟨Nat.le_refl _, Nat.le_refl _⟩ (fun H locs hJ hS => ?_)
      obtain ⟨u9, h9, hf⟩ := jm_rd_ok hf
      refine jw_ck (q := (RX3, TX3, 5)) C hJ h9 rfl (jm_w C 3 rfl) dX7_proposeLogAgain_32 ?_
      refine jw_aload_n C dX7_proposeLogAgain_35 rfl (hl.at 0 rfl) ?_
      obtain ⟨v10, h10, hf⟩ := jm_rd_ok hf
      refine jw_gR (Cn := RX7) (T := TX7) (N := 12) C hJ h10 rfl inX7_proposeLogAgain_X7 (by decide) (jm_w C 4 rfl) (fun _ h => h) dX7_proposeLogAgain_36 ?_
      obtain ⟨a11, o11, hf⟩ := jm_rd_ok hf
      obtain ⟨v11, S11, h11, hf⟩ := jm_bd_ok hf
      refine jw_cV (q := (RX4, TX4, 2)) C hJ hS o11 rfl (cX4_carryOut_C l G a11 v8 v10 h11) (cwV 2 C.2.2.2.2.1 gX7_proposeLogAgain_X4_carryOut rfl rfl rfl (by decide +kernel) ⟨Nat.le_of_ble_eq_true rfl, Nat.le_of_ble_eq_true rfl⟩) rfl hl.1 rfl (Nat.le_of_ble_eq_true rfl) dX7_proposeLogAgain_39 ⟨Nat.le_refl _, Nat.le_refl _⟩ (fun H locs hJ hS => ?_)
      refine jw_iinc (v := x2 + 1) C 2 dX7_proposeLogAgain_42 hl rfl (by rfl) (by decide) rfl (fun ls hl => ?_)
      refine lv_goto (tgt := 9) C.1 C.2.1 dX7_proposeLogAgain_45 (by decide) ?_
      exact ih h0 x1 (x2 + 1) hf hJ hS (hl.sub [1, 2, 0] rfl)
theorem moX7_proposeLogAgain (h0 : Nat) (x1 : Option Nat) : jm_Mo (fX7_proposeLogAgain h0 x1) := by
  unfold fX7_proposeLogAgain
  exact jm_Mo_rd (fun _ => jm_Mo_rd (fun _ => jm_Mo_bd (moX4_clear _) (fun _ => moX7_proposeLogAgain_9 _ _ _ _)))
set_option maxHeartbeats 4000000 in
set_option maxRecDepth 100000 in
theorem kX7_proposeLogAgain {rv : Unit} {Sf : jm_S} (C : jm_C G cX7_proposeLogAgain 3 RX7 wsX7_proposeLogAgain (none) p s m args meth c) : ∀ (h0 : Nat) (x1 : Option Nat) {S : jm_S} {H : Heap} {locs : List Loc} {ls : Array Slot}, fX7_proposeLogAgain h0 x1 S = some (rv, Sf) → jm_J G S H → va_S (jm_A G) s.heap H locs → jm_L ls 3 [(0, .inr (some h0)), (1, .inr x1)] → W p l e ({ frames := 6, cells := 0, slots := 0, locals := 158 } : Room) s m args below meth c H locs 0 0 (MQ below (jm_Q G (none) Sf) args s 0 0 (jm_A G)) (F0 m 0 ls []) := by
  intro h0 x1 S H locs ls hf hJ hS hl
  unfold fX7_proposeLogAgain at hf
  refine jw_aload_n C dX7_proposeLogAgain_0 rfl (hl.at 0 rfl) ?_
  obtain ⟨v1, h1, hf⟩ := jm_rd_ok hf
  refine jw_gR (Cn := RX7) (T := TX7) (N := 12) C hJ h1 rfl inX7_proposeLogAgain_X7 (by decide) (jm_w C 1 rfl) (fun _ h => h) dX7_proposeLogAgain_1 ?_
  obtain ⟨a2, o2, hf⟩ := jm_rd_ok hf
  obtain ⟨v2, S2, h2, hf⟩ := jm_bd_ok hf
  refine jw_cV (q := (RX4, TX4, 2)) C hJ hS o2 rfl (cX4_clear_C l G a2 h2) (cwV 0 C.2.2.2.2.1 gX7_proposeLogAgain_X4_clear rfl rfl rfl (by decide +kernel) ⟨Nat.le_of_ble_eq_true rfl, Nat.le_of_ble_eq_true rfl⟩) rfl hl.1 rfl (Nat.le_of_ble_eq_true rfl) dX7_proposeLogAgain_4 ⟨Nat.le_refl _, Nat.le_refl _⟩ (fun H locs hJ hS => ?_)
  refine lv_iconst (v := 0) C.1 C.2.1 dX7_proposeLogAgain_7 (by decide) ?_
  refine jw_istore_n C dX7_proposeLogAgain_8 rfl hl (by decide) rfl (fun ls hl => ?_)
  exact kX7_proposeLogAgain_9 C 4096 h0 x1 0 hf hJ hS (hl.sub [1, 2, 0] rfl)
set_option maxHeartbeats 4000000 in
set_option maxRecDepth 100000 in
theorem cX7_proposeLogAgain_C (l : Launch) (G : jm_G) (h0 : Nat) (x1 : Option Nat) {S Sf : jm_S} {rv : Unit} (hf : fX7_proposeLogAgain h0 x1 S = some (rv, Sf)) : Met l yX7_proposeLogAgain wsX7_proposeLogAgain ({ frames := 6, cells := 0, slots := 0, locals := 158 } : Room) (jm_Pc G S [.ref h0, va_rf x1]) (jm_Q G (none) Sf) 0 0 (jm_A G) := by
  refine Met.ofW (cc := cX7_proposeLogAgain) (maxL := 3) (ret := none) (by decide) rfl ?_
  intro p e s m args below meth c s₁ B hml hv
  obtain ⟨rfl, hJ, hX⟩ := hv
  have C : jm_C G cX7_proposeLogAgain 3 RX7 wsX7_proposeLogAgain (none) p s m _ meth c := ⟨B.exec, B.bytes, hml, findClass_of_methodNamed B.named, atoms_spec (ws := wsX7_proposeLogAgain) B.pre, B.returns, B.notSynchronized, hX⟩
  obtain ⟨ls, he, hl⟩ := jm_entry m [.inr (some h0), .inr x1] (n := 3) (Nat.le_of_ble_eq_true rfl)
  have he : entryFrame m ([.ref h0, va_rf x1] : List Value).toArray 3 = F0 m 0 ls [] := he
  rw [he]
  exact kX7_proposeLogAgain C h0 x1 hf hJ va_S.rf (hl.sub [0, 1] rfl)
/-! CoordinationService.beginEpoch -/
def fX7_beginEpoch_101 : Nat → Nat → Option Nat → Option Nat → Int32 → Int32 → jm_P Unit
  | 0, _, _, _, _, _ => jm_no
  | n + 1, h0, x1, x2, x3, x4 => (if x3 ≤ x4 then jm_rd (jm_o (some h0) 8) fun a14 => jm_bd (fX7_proposeLogAgain a14 x1) fun _ => jm_ret () else jm_rd (jm_gq x2 3 x4) fun v15 => jm_rd (jm_gI v15 2 4) fun v16 => (if v16 = 0 then fX7_beginEpoch_101 n h0 x1 x2 x3 (x4 + 1) else jm_rd (jm_gI (some h0) 8 9) fun v18 => jm_rd (jm_gR (some h0) 8 2) fun v19 => jm_rd (jm_o v15 2) fun a20 => jm_bd (fX1_applyUpTo a20 v18 v19) fun v20 => fX7_beginEpoch_101 n h0 x1 x2 x3 (x4 + 1)))
def fX7_beginEpoch_31 : Nat → Nat → Option Nat → Option Nat → Int32 → Int32 → jm_P Unit
  | 0, _, _, _, _, _ => jm_no
  | n + 1, h0, x1, x2, x3, x4 => (if x3 ≤ x4 then jm_rd (jm_gR x1 2 2) fun v8 => jm_rd (jm_o v8 0) fun a9 => jm_bd (fJx4a65c_size_8abf5 a9) fun v9 => jm_wr (jm_p (some h0) 8 9 (.inl v9)) <| jm_rd (jm_gR (some h0) 8 0) fun v11 => jm_rd (jm_lq v11 3) fun v12 => fX7_beginEpoch_101 4096 h0 x1 v11 v12 0 else jm_rd (jm_gq x2 3 x4) fun v21 => jm_rd (jm_gI v21 2 3) fun v22 => (if v22 = 0 then fX7_beginEpoch_31 n h0 x1 x2 x3 (x4 + 1) else jm_rd (jm_o v21 2) fun a24 => jm_bd (fX1_copyLogOf a24 x1) fun v24 => jm_rd (jm_z 1) fun _ => jm_wr (jm_p v21 2 4 (.inl 1)) <| jm_rd (jm_gI (some h0) 8 7) fun v26 => jm_wr (jm_p v21 2 5 (.inl v26)) <| fX7_beginEpoch_31 n h0 x1 x2 x3 (x4 + 1)))
def fX7_beginEpoch (h0 : Nat) (x1 : Option Nat) : jm_P Unit := jm_wr (jm_p (some h0) 8 6 (.inr x1)) <| jm_rd (jm_gI x1 2 5) fun v2 => jm_wr (jm_p (some h0) 8 7 (.inl (v2 + 1))) <| jm_wr (jm_p (some h0) 8 8 (.inl 0)) <| jm_rd (jm_gR (some h0) 8 0) fun v5 => jm_rd (jm_lq v5 3) fun v6 => fX7_beginEpoch_31 4096 h0 x1 v5 v6 0
theorem inX7_beginEpoch_X7 : ∀ w ∈ wsX70, w ∈ wsX7_beginEpoch := fun _ h => List.mem_cons_of_mem _ (List.mem_append_left _ (List.mem_append_left _ (List.mem_append_left _ (List.mem_append_left _ (List.mem_append_left _ (List.mem_append_left _ (List.mem_append_left _ (List.mem_append_left _ (List.mem_append_right _ h)))))))))
theorem inX7_beginEpoch_X1 : ∀ w ∈ wsX10, w ∈ wsX7_beginEpoch := fun _ h => List.mem_cons_of_mem _ (List.mem_append_left _ (List.mem_append_left _ (List.mem_append_left _ (List.mem_append_left _ (List.mem_append_left _ (List.mem_append_left _ (List.mem_append_left _ (List.mem_append_right _ h))))))))
theorem moX7_beginEpoch_101 : ∀ (n : Nat) (h0 : Nat) (x1 : Option Nat) (x2 : Option Nat) (x3 : Int32) (x4 : Int32), jm_Mo (fX7_beginEpoch_101 n h0 x1 x2 x3 x4) := by
  intro n
  induction n with
  | zero =>
    intro h0 x1 x2 x3 x4
    rw [fX7_beginEpoch_101]
    exact jm_Mo_no
  | succ n ih =>
    intro h0 x1 x2 x3 x4
    rw [fX7_beginEpoch_101]
    exact jm_Mo_if (jm_Mo_rd (fun _ => jm_Mo_bd (moX7_proposeLogAgain _ _) (fun _ => jm_Mo_ret _))) (jm_Mo_rd (fun _ => jm_Mo_rd (fun _ => jm_Mo_if (ih _ _ _ _ _) (jm_Mo_rd (fun _ => jm_Mo_rd (fun _ => jm_Mo_rd (fun _ => jm_Mo_bd (moX1_applyUpTo _ _ _) (fun _ => ih _ _ _ _ _))))))))
set_option maxHeartbeats 4000000 in
set_option maxRecDepth 100000 in
theorem kX7_beginEpoch_101 {rv : Unit} {Sf : jm_S} (C : jm_C G cX7_beginEpoch 6 RX7 wsX7_beginEpoch (none) p s m args meth c) {n0 m0 mc ms : Nat} (hr1 : Sf.2.1 ≤ n0 + mc) (hr2 : Sf.2.2.1 ≤ m0 + ms) : ∀ (n : Nat) (h0 : Nat) (x1 : Option Nat) (x2 : Option Nat) (x3 : Int32) (x4 : Int32) {S : jm_S} {H : Heap} {locs : List Loc} {ls : Array Slot} {cells slots : Nat}, fX7_beginEpoch_101 n h0 x1 x2 x3 x4 S = some (rv, Sf) → jm_J G S H → va_S (jm_A G) s.heap H locs → jm_L ls 6 [(0, .inr (some h0)), (1, .inr x1), (2, .inr x2), (3, .inl x3), (4, .inl x4)] → cells + n0 ≤ S.2.1 → slots + m0 ≤ S.2.2.1 → W p l e ({ frames := 8, cells := mc, slots := ms, locals := 196 } : Room) s m args below meth c H locs cells slots (MQ below (jm_Q G (none) Sf) args s mc ms (jm_A G)) (F0 m 101 ls []) := by
  intro n
  induction n with
  | zero =>
    intro h0 x1 x2 x3 x4 S H locs ls cells slots hf
    rw [fX7_beginEpoch_101] at hf
    exact absurd hf (fun h => jm_no_ok h)
  | succ n ih =>
    intro h0 x1 x2 x3 x4 S H locs ls cells slots hf hJ hS hl hc1 hc2
    rw [fX7_beginEpoch_101] at hf
    refine lv_iload C.1 C.2.1 dX7_beginEpoch_101 (hl.at 4 rfl) ?_
    refine lv_iload_n C.1 C.2.1 dX7_beginEpoch_103 rfl (hl.at 3 rfl) ?_
    refine lv_icmp_ge (tgt := 141) C.1 C.2.1 dX7_beginEpoch_104 (by decide) (fun hq13 => ?_) (fun hq13 => ?_)
    · replace hf := jm_ift hf hq13
      refine jw_aload_n C dX7_beginEpoch_141 rfl (hl.at 0 rfl) ?_
      refine jw_aload_n C dX7_beginEpoch_142 rfl (hl.at 1 rfl) ?_
      obtain ⟨a14, o14, hf⟩ := jm_rd_ok hf
      obtain ⟨v14, S14, h14, hf⟩ := jm_bd_ok hf
      have e14 := moX7_proposeLogAgain a14 x1 _ _ _ h14
      have g14 := jm_mo hf (jm_Mo_ret _)
      refine jw_cV (q := (RX7, TX7, 12)) C hJ hS o14 rfl (cX7_proposeLogAgain_C l G a14 x1 h14) (cwV 1 C.2.2.2.2.1 gX7_beginEpoch_X7_proposeLogAgain rfl rfl rfl (by decide +kernel) ⟨Nat.le_of_ble_eq_true rfl, Nat.le_of_ble_eq_true rfl⟩) rfl hl.1 rfl (Nat.le_of_ble_eq_true rfl) dX7_beginEpoch_143 ⟨by show cells + 0 ≤ mc; omega, by show slots + 0 ≤ ms; omega⟩ (fun H locs hJ hS => ?_)
      replace hc1 : cells + 0 + n0 ≤ S14.2.1 := by omega
      replace hc2 : slots + 0 + m0 ≤ S14.2.2.1 := by omega
      generalize cells + 0 = cells at hc1 ⊢
      generalize slots + 0 = slots at hc2 ⊢
      obtain ⟨rfl, rfl⟩ := jm_ret_ok hf
      exact jw_rv C hJ hS (by omega) (by omega) dX7_beginEpoch_146
    · replace hf := jm_iff hf hq13
      refine jw_aload_n C dX7_beginEpoch_107 rfl (hl.at 2 rfl) ?_
      refine lv_iload C.1 C.2.1 dX7_beginEpoch_108 (hl.at 4 rfl) ?_
      obtain ⟨v15, h15, hf⟩ := jm_rd_ok hf
      refine jw_aaload C hJ h15 (by decide) rfl dX7_beginEpoch_110 ?_
      refine jw_astore C dX7_beginEpoch_111 hl (by decide) rfl (fun ls hl => ?_)
      refine jw_aload C dX7_beginEpoch_113 (hl.at 0 rfl) ?_
      obtain ⟨v16, h16, hf⟩ := jm_rd_ok hf
      refine jw_gI (Cn := RX1) (T := TX1) (N := 7) C hJ h16 rfl inX7_beginEpoch_X1 (by decide) (jm_w C 7 rfl) (fun _ h => h) dX7_beginEpoch_115 ?_
      refine lv_if_eq (tgt := 135) C.1 C.2.1 dX7_beginEpoch_118 (by decide) (fun hq17 => ?_) (fun hq17 => ?_)
      · replace hf := jm_ift hf hq17
        refine jw_iinc (v := x4 + 1) C 5 dX7_beginEpoch_135 hl rfl (by rfl) (by decide) rfl (fun ls hl => ?_)
        refine lv_goto (tgt := 101) C.1 C.2.1 dX7_beginEpoch_138 (by decide) ?_
        exact ih h0 x1 x2 x3 (x4 + 1) hf hJ hS (hl.sub [2, 3, 4, 5, 0] rfl) hc1 hc2
      · replace hf := jm_iff hf hq17
        refine jw_aload C dX7_beginEpoch_121 (hl.at 0 rfl) ?_
        refine jw_aload_n C dX7_beginEpoch_123 rfl (hl.at 1 rfl) ?_
        obtain ⟨v18, h18, hf⟩ := jm_rd_ok hf
        refine jw_gI (Cn := RX7) (T := TX7) (N := 12) C hJ h18 rfl inX7_beginEpoch_X7 (by decide) (jm_w C 9 rfl) (fun _ h => h) dX7_beginEpoch_124 ?_
        refine jw_aload_n C dX7_beginEpoch_127 rfl (hl.at 1 rfl) ?_
        obtain ⟨v19, h19, hf⟩ := jm_rd_ok hf
        refine jw_gR (Cn := RX7) (T := TX7) (N := 12) C hJ h19 rfl inX7_beginEpoch_X7 (by decide) (jm_w C 10 rfl) (fun _ h => h) dX7_beginEpoch_128 ?_
        obtain ⟨a20, o20, hf⟩ := jm_rd_ok hf
        obtain ⟨v20, S20, h20, hf⟩ := jm_bd_ok hf
        have e20 := moX1_applyUpTo a20 v18 v19 _ _ _ h20
        have g20 := jm_mo hf (moX7_beginEpoch_101 _ _ _ _ _ _)
        refine jw_cV (q := (RX1, TX1, 7)) C hJ hS o20 rfl (cX1_applyUpTo_C l G a20 v18 v19 h20) (cwV 2 C.2.2.2.2.1 gX7_beginEpoch_X1_applyUpTo rfl rfl rfl (by decide +kernel) ⟨Nat.le_of_ble_eq_true rfl, Nat.le_of_ble_eq_true rfl⟩) rfl hl.1 rfl (Nat.le_of_ble_eq_true rfl) dX7_beginEpoch_131 ⟨by show cells + 0 ≤ mc; omega, by show slots + 0 ≤ ms; omega⟩ (fun H locs hJ hS => ?_)
        replace hc1 : cells + 0 + n0 ≤ S20.2.1 := by omega
        replace hc2 : slots + 0 + m0 ≤ S20.2.2.1 := by omega
        generalize cells + 0 = cells at hc1 ⊢
        generalize slots + 0 = slots at hc2 ⊢
        refine lv_pop C.1 C.2.1 dX7_beginEpoch_134 rfl ?_
        refine jw_iinc (v := x4 + 1) C 5 dX7_beginEpoch_135 hl rfl (by rfl) (by decide) rfl (fun ls hl => ?_)
        refine lv_goto (tgt := 101) C.1 C.2.1 dX7_beginEpoch_138 (by decide) ?_
        exact ih h0 x1 x2 x3 (x4 + 1) hf hJ hS (hl.sub [2, 3, 4, 5, 0] rfl) hc1 hc2
theorem moX7_beginEpoch_31 : ∀ (n : Nat) (h0 : Nat) (x1 : Option Nat) (x2 : Option Nat) (x3 : Int32) (x4 : Int32), jm_Mo (fX7_beginEpoch_31 n h0 x1 x2 x3 x4) := by
  intro n
  induction n with
  | zero =>
    intro h0 x1 x2 x3 x4
    rw [fX7_beginEpoch_31]
    exact jm_Mo_no
  | succ n ih =>
    intro h0 x1 x2 x3 x4
    rw [fX7_beginEpoch_31]
    exact jm_Mo_if (jm_Mo_rd (fun _ => jm_Mo_rd (fun _ => jm_Mo_bd (moJx4a65c_size_8abf5 _) (fun _ => jm_Mo_wr jm_p_st (jm_Mo_rd (fun _ => jm_Mo_rd (fun _ => moX7_beginEpoch_101 _ _ _ _ _ _))))))) (jm_Mo_rd (fun _ => jm_Mo_rd (fun _ => jm_Mo_if (ih _ _ _ _ _) (jm_Mo_rd (fun _ => jm_Mo_bd (moX1_copyLogOf _ _) (fun _ => jm_Mo_rd (fun _ => jm_Mo_wr jm_p_st (jm_Mo_rd (fun _ => jm_Mo_wr jm_p_st (ih _ _ _ _ _))))))))))
set_option maxHeartbeats 4000000 in
set_option maxRecDepth 100000 in
theorem kX7_beginEpoch_31 {rv : Unit} {Sf : jm_S} (C : jm_C G cX7_beginEpoch 6 RX7 wsX7_beginEpoch (none) p s m args meth c) {n0 m0 mc ms : Nat} (hr1 : Sf.2.1 ≤ n0 + mc) (hr2 : Sf.2.2.1 ≤ m0 + ms) : ∀ (n : Nat) (h0 : Nat) (x1 : Option Nat) (x2 : Option Nat) (x3 : Int32) (x4 : Int32) {S : jm_S} {H : Heap} {locs : List Loc} {ls : Array Slot} {cells slots : Nat}, fX7_beginEpoch_31 n h0 x1 x2 x3 x4 S = some (rv, Sf) → jm_J G S H → va_S (jm_A G) s.heap H locs → jm_L ls 6 [(0, .inr (some h0)), (1, .inr x1), (2, .inr x2), (3, .inl x3), (4, .inl x4)] → cells + n0 ≤ S.2.1 → slots + m0 ≤ S.2.2.1 → W p l e ({ frames := 8, cells := mc, slots := ms, locals := 196 } : Room) s m args below meth c H locs cells slots (MQ below (jm_Q G (none) Sf) args s mc ms (jm_A G)) (F0 m 31 ls []) := by
  intro n
  induction n with
  | zero =>
    intro h0 x1 x2 x3 x4 S H locs ls cells slots hf
    rw [fX7_beginEpoch_31] at hf
    exact absurd hf (fun h => jm_no_ok h)
  | succ n ih =>
    intro h0 x1 x2 x3 x4 S H locs ls cells slots hf hJ hS hl hc1 hc2
    rw [fX7_beginEpoch_31] at hf
    refine lv_iload C.1 C.2.1 dX7_beginEpoch_31 (hl.at 4 rfl) ?_
    refine lv_iload_n C.1 C.2.1 dX7_beginEpoch_33 rfl (hl.at 3 rfl) ?_
    refine lv_icmp_ge (tgt := 79) C.1 C.2.1 dX7_beginEpoch_34 (by decide) (fun hq7 => ?_) (fun hq7 => ?_)
    · replace hf := jm_ift hf hq7
      refine jw_aload_n C dX7_beginEpoch_79 rfl (hl.at 0 rfl) ?_
      refine jw_aload_n C dX7_beginEpoch_80 rfl (hl.at 1 rfl) ?_
      obtain ⟨v8, h8, hf⟩ := jm_rd_ok hf
      refine jw_gR (Cn := RX1) (T := TX1) (N := 7) C hJ h8 rfl inX7_beginEpoch_X1 (by decide) (jm_w C 8 rfl) (fun _ h => h) dX7_beginEpoch_81 ?_
      obtain ⟨a9, o9, hf⟩ := jm_rd_ok hf
      obtain ⟨v9, S9, h9, hf⟩ := jm_bd_ok hf
      have e9 := moJx4a65c_size_8abf5 a9 _ _ _ h9
      have g9 := jm_mo hf (jm_Mo_wr jm_p_st (jm_Mo_rd (fun _ => jm_Mo_rd (fun _ => moX7_beginEpoch_101 _ _ _ _ _ _))))
      refine jw_cV (q := (RJx4a65c, TJx4a65c, 3)) C hJ hS o9 rfl (cJx4a65c_size_8abf5_C l G a9 h9) (cwV 0 C.2.2.2.2.1 gX7_beginEpoch_Jx4a65c_size_8abf5 rfl rfl rfl (by decide +kernel) ⟨Nat.le_of_ble_eq_true rfl, Nat.le_of_ble_eq_true rfl⟩) rfl hl.1 rfl (Nat.le_of_ble_eq_true rfl) dX7_beginEpoch_84 ⟨by show cells + 0 ≤ mc; omega, by show slots + 0 ≤ ms; omega⟩ (fun H locs hJ hS => ?_)
      replace hc1 : cells + 0 + n0 ≤ S9.2.1 := by omega
      replace hc2 : slots + 0 + m0 ≤ S9.2.2.1 := by omega
      generalize cells + 0 = cells at hc1 ⊢
      generalize slots + 0 = slots at hc2 ⊢
      obtain ⟨S10, h10, hf⟩ := jm_wr_ok hf
      have e10 := jm_p_st _ _ h10
      rw [← e10] at hc1 hc2
      refine jw_p (x := .inl v9) (ty := .int) (Cn := RX7) (T := TX7) (N := 12) C hJ hS h10 rfl inX7_beginEpoch_X7 tyX7 tyX7_ok nmX7 (by decide) (jm_w C 9 rfl) (fun _ h => h) rfl (by decide +kernel) rfl rfl dX7_beginEpoch_87 (fun H locs hJ hS => ?_)
      refine jw_aload_n C dX7_beginEpoch_90 rfl (hl.at 0 rfl) ?_
      obtain ⟨v11, h11, hf⟩ := jm_rd_ok hf
      refine jw_gR (Cn := RX7) (T := TX7) (N := 12) C hJ h11 rfl inX7_beginEpoch_X7 (by decide) (jm_w C 5 rfl) (fun _ h => h) dX7_beginEpoch_91 ?_
      refine jw_astore_n C dX7_beginEpoch_94 rfl hl (by decide) rfl (fun ls hl => ?_)
      refine jw_aload_n C dX7_beginEpoch_95 rfl (hl.at 0 rfl) ?_
      obtain ⟨v12, h12, hf⟩ := jm_rd_ok hf
      refine jw_lq C hJ hS h12 (by decide) rfl dX7_beginEpoch_96 ?_
      refine jw_istore_n C dX7_beginEpoch_97 rfl hl (by decide) rfl (fun ls hl => ?_)
      refine lv_iconst (v := 0) C.1 C.2.1 dX7_beginEpoch_98 (by decide) ?_
      refine jw_istore C dX7_beginEpoch_99 hl (by decide) rfl (fun ls hl => ?_)
      exact kX7_beginEpoch_101 C hr1 hr2 4096 h0 x1 v11 v12 0 hf hJ hS (hl.sub [3, 4, 2, 1, 0] rfl) hc1 hc2
    · replace hf := jm_iff hf hq7
      refine jw_aload_n C dX7_beginEpoch_37 rfl (hl.at 2 rfl) ?_
      refine lv_iload C.1 C.2.1 dX7_beginEpoch_38 (hl.at 4 rfl) ?_
      obtain ⟨v21, h21, hf⟩ := jm_rd_ok hf
      refine jw_aaload C hJ h21 (by decide) rfl dX7_beginEpoch_40 ?_
      refine jw_astore C dX7_beginEpoch_41 hl (by decide) rfl (fun ls hl => ?_)
      refine jw_aload C dX7_beginEpoch_43 (hl.at 0 rfl) ?_
      obtain ⟨v22, h22, hf⟩ := jm_rd_ok hf
      refine jw_gI (Cn := RX1) (T := TX1) (N := 7) C hJ h22 rfl inX7_beginEpoch_X1 (by decide) (jm_w C 6 rfl) (fun _ h => h) dX7_beginEpoch_45 ?_
      refine lv_if_eq (tgt := 73) C.1 C.2.1 dX7_beginEpoch_48 (by decide) (fun hq23 => ?_) (fun hq23 => ?_)
      · replace hf := jm_ift hf hq23
        refine jw_iinc (v := x4 + 1) C 5 dX7_beginEpoch_73 hl rfl (by rfl) (by decide) rfl (fun ls hl => ?_)
        refine lv_goto (tgt := 31) C.1 C.2.1 dX7_beginEpoch_76 (by decide) ?_
        exact ih h0 x1 x2 x3 (x4 + 1) hf hJ hS (hl.sub [2, 3, 4, 5, 0] rfl) hc1 hc2
      · replace hf := jm_iff hf hq23
        refine jw_aload C dX7_beginEpoch_51 (hl.at 0 rfl) ?_
        refine jw_aload_n C dX7_beginEpoch_53 rfl (hl.at 2 rfl) ?_
        obtain ⟨a24, o24, hf⟩ := jm_rd_ok hf
        obtain ⟨v24, S24, h24, hf⟩ := jm_bd_ok hf
        have e24 := moX1_copyLogOf a24 x1 _ _ _ h24
        have g24 := jm_mo hf (jm_Mo_rd (fun _ => jm_Mo_wr jm_p_st (jm_Mo_rd (fun _ => jm_Mo_wr jm_p_st (moX7_beginEpoch_31 _ _ _ _ _ _)))))
        refine jw_cV (q := (RX1, TX1, 7)) C hJ hS o24 rfl (cX1_copyLogOf_C l G a24 x1 h24 (S24.2.1 - S.2.1) (S24.2.2.1 - S.2.2.1) (by omega) (by omega)) (cwV 1 C.2.2.2.2.1 gX7_beginEpoch_X1_copyLogOf rfl rfl rfl (by decide +kernel) ⟨Nat.le_of_ble_eq_true rfl, Nat.le_of_ble_eq_true rfl⟩) rfl hl.1 rfl (Nat.le_of_ble_eq_true rfl) dX7_beginEpoch_54 ⟨by show cells + _ ≤ mc; omega, by show slots + _ ≤ ms; omega⟩ (fun H locs hJ hS => ?_)
        replace hc1 : cells + (S24.2.1 - S.2.1) + n0 ≤ S24.2.1 := by omega
        replace hc2 : slots + (S24.2.2.1 - S.2.2.1) + m0 ≤ S24.2.2.1 := by omega
        generalize cells + (S24.2.1 - S.2.1) = cells at hc1 ⊢
        generalize slots + (S24.2.2.1 - S.2.2.1) = slots at hc2 ⊢
        refine lv_pop C.1 C.2.1 dX7_beginEpoch_57 rfl ?_
        refine jw_aload C dX7_beginEpoch_58 (hl.at 0 rfl) ?_
        refine lv_iconst (v := 1) C.1 C.2.1 dX7_beginEpoch_60 (by decide) ?_
        obtain ⟨u25, z25, hf⟩ := jm_rd_ok hf
        obtain ⟨S25, h25, hf⟩ := jm_wr_ok hf
        have e25 := jm_p_st _ _ h25
        rw [← e25] at hc1 hc2
        refine jw_p (x := .inl 1) (ty := .boolean) (Cn := RX1) (T := TX1) (N := 7) C hJ hS h25 rfl inX7_beginEpoch_X1 tyX1 tyX1_ok nmX1 (by decide) (jm_w C 7 rfl) (fun _ h => h) rfl (by decide +kernel) (jm_nz z25).1 (jm_nz z25).2.1 dX7_beginEpoch_61 (fun H locs hJ hS => ?_)
        refine jw_aload C dX7_beginEpoch_64 (hl.at 0 rfl) ?_
        refine jw_aload_n C dX7_beginEpoch_66 rfl (hl.at 1 rfl) ?_
        obtain ⟨v26, h26, hf⟩ := jm_rd_ok hf
        refine jw_gI (Cn := RX7) (T := TX7) (N := 12) C hJ h26 rfl inX7_beginEpoch_X7 (by decide) (jm_w C 3 rfl) (fun _ h => h) dX7_beginEpoch_67 ?_
        obtain ⟨S27, h27, hf⟩ := jm_wr_ok hf
        have e27 := jm_p_st _ _ h27
        rw [← e27] at hc1 hc2
        refine jw_p (x := .inl v26) (ty := .int) (Cn := RX1) (T := TX1) (N := 7) C hJ hS h27 rfl inX7_beginEpoch_X1 tyX1 tyX1_ok nmX1 (by decide) (jm_w C 2 rfl) (fun _ h => h) rfl (by decide +kernel) rfl rfl dX7_beginEpoch_70 (fun H locs hJ hS => ?_)
        refine jw_iinc (v := x4 + 1) C 5 dX7_beginEpoch_73 hl rfl (by rfl) (by decide) rfl (fun ls hl => ?_)
        refine lv_goto (tgt := 31) C.1 C.2.1 dX7_beginEpoch_76 (by decide) ?_
        exact ih h0 x1 x2 x3 (x4 + 1) hf hJ hS (hl.sub [2, 3, 4, 5, 0] rfl) hc1 hc2
theorem moX7_beginEpoch (h0 : Nat) (x1 : Option Nat) : jm_Mo (fX7_beginEpoch h0 x1) := by
  unfold fX7_beginEpoch
  exact jm_Mo_wr jm_p_st (jm_Mo_rd (fun _ => jm_Mo_wr jm_p_st (jm_Mo_wr jm_p_st (jm_Mo_rd (fun _ => jm_Mo_rd (fun _ => moX7_beginEpoch_31 _ _ _ _ _ _))))))
set_option maxHeartbeats 4000000 in
set_option maxRecDepth 100000 in
theorem kX7_beginEpoch {rv : Unit} {Sf : jm_S} (C : jm_C G cX7_beginEpoch 6 RX7 wsX7_beginEpoch (none) p s m args meth c) {n0 m0 mc ms : Nat} (hr1 : Sf.2.1 ≤ n0 + mc) (hr2 : Sf.2.2.1 ≤ m0 + ms) : ∀ (h0 : Nat) (x1 : Option Nat) {S : jm_S} {H : Heap} {locs : List Loc} {ls : Array Slot} {cells slots : Nat}, fX7_beginEpoch h0 x1 S = some (rv, Sf) → jm_J G S H → va_S (jm_A G) s.heap H locs → jm_L ls 6 [(0, .inr (some h0)), (1, .inr x1)] → cells + n0 ≤ S.2.1 → slots + m0 ≤ S.2.2.1 → W p l e ({ frames := 8, cells := mc, slots := ms, locals := 196 } : Room) s m args below meth c H locs cells slots (MQ below (jm_Q G (none) Sf) args s mc ms (jm_A G)) (F0 m 0 ls []) := by
  intro h0 x1 S H locs ls cells slots hf hJ hS hl hc1 hc2
  unfold fX7_beginEpoch at hf
  refine jw_aload_n C dX7_beginEpoch_0 rfl (hl.at 0 rfl) ?_
  refine jw_aload_n C dX7_beginEpoch_1 rfl (hl.at 1 rfl) ?_
  obtain ⟨S1, h1, hf⟩ := jm_wr_ok hf
  have e1 := jm_p_st _ _ h1
  rw [← e1] at hc1 hc2
  refine jw_p (x := .inr x1) (ty := (.object "CoordinationService$Server")) (Cn := RX7) (T := TX7) (N := 12) C hJ hS h1 rfl inX7_beginEpoch_X7 tyX7 tyX7_ok nmX7 (by decide) (jm_w C 1 rfl) (fun _ h => h) rfl (by decide +kernel) (jm_nr _ x1).1 (jm_nr _ x1).2 dX7_beginEpoch_2 (fun H locs hJ hS => ?_)
  refine jw_aload_n C dX7_beginEpoch_5 rfl (hl.at 0 rfl) ?_
  refine jw_aload_n C dX7_beginEpoch_6 rfl (hl.at 1 rfl) ?_
  obtain ⟨v2, h2, hf⟩ := jm_rd_ok hf
  refine jw_gI (Cn := RX1) (T := TX1) (N := 7) C hJ h2 rfl inX7_beginEpoch_X1 (by decide) (jm_w C 2 rfl) (fun _ h => h) dX7_beginEpoch_7 ?_
  refine lv_iconst (v := 1) C.1 C.2.1 dX7_beginEpoch_10 (by decide) ?_
  refine lv_iadd C.1 C.2.1 dX7_beginEpoch_11 ?_
  obtain ⟨S3, h3, hf⟩ := jm_wr_ok hf
  have e3 := jm_p_st _ _ h3
  rw [← e3] at hc1 hc2
  refine jw_p (x := .inl (v2 + 1)) (ty := .int) (Cn := RX7) (T := TX7) (N := 12) C hJ hS h3 rfl inX7_beginEpoch_X7 tyX7 tyX7_ok nmX7 (by decide) (jm_w C 3 rfl) (fun _ h => h) rfl (by decide +kernel) rfl rfl dX7_beginEpoch_12 (fun H locs hJ hS => ?_)
  refine jw_aload_n C dX7_beginEpoch_15 rfl (hl.at 0 rfl) ?_
  refine lv_iconst (v := 0) C.1 C.2.1 dX7_beginEpoch_16 (by decide) ?_
  obtain ⟨S4, h4, hf⟩ := jm_wr_ok hf
  have e4 := jm_p_st _ _ h4
  rw [← e4] at hc1 hc2
  refine jw_p (x := .inl 0) (ty := .int) (Cn := RX7) (T := TX7) (N := 12) C hJ hS h4 rfl inX7_beginEpoch_X7 tyX7 tyX7_ok nmX7 (by decide) (jm_w C 4 rfl) (fun _ h => h) rfl (by decide +kernel) rfl rfl dX7_beginEpoch_17 (fun H locs hJ hS => ?_)
  refine jw_aload_n C dX7_beginEpoch_20 rfl (hl.at 0 rfl) ?_
  obtain ⟨v5, h5, hf⟩ := jm_rd_ok hf
  refine jw_gR (Cn := RX7) (T := TX7) (N := 12) C hJ h5 rfl inX7_beginEpoch_X7 (by decide) (jm_w C 5 rfl) (fun _ h => h) dX7_beginEpoch_21 ?_
  refine jw_astore_n C dX7_beginEpoch_24 rfl hl (by decide) rfl (fun ls hl => ?_)
  refine jw_aload_n C dX7_beginEpoch_25 rfl (hl.at 0 rfl) ?_
  obtain ⟨v6, h6, hf⟩ := jm_rd_ok hf
  refine jw_lq C hJ hS h6 (by decide) rfl dX7_beginEpoch_26 ?_
  refine jw_istore_n C dX7_beginEpoch_27 rfl hl (by decide) rfl (fun ls hl => ?_)
  refine lv_iconst (v := 0) C.1 C.2.1 dX7_beginEpoch_28 (by decide) ?_
  refine jw_istore C dX7_beginEpoch_29 hl (by decide) rfl (fun ls hl => ?_)
  exact kX7_beginEpoch_31 C hr1 hr2 4096 h0 x1 v5 v6 0 hf hJ hS (hl.sub [3, 4, 2, 1, 0] rfl) hc1 hc2
set_option maxHeartbeats 4000000 in
set_option maxRecDepth 100000 in
theorem cX7_beginEpoch_C (l : Launch) (G : jm_G) (h0 : Nat) (x1 : Option Nat) {S Sf : jm_S} {rv : Unit} (hf : fX7_beginEpoch h0 x1 S = some (rv, Sf)) (mc ms : Nat) (hr1 : Sf.2.1 ≤ S.2.1 + mc) (hr2 : Sf.2.2.1 ≤ S.2.2.1 + ms) : Met l yX7_beginEpoch wsX7_beginEpoch ({ frames := 8, cells := mc, slots := ms, locals := 196 } : Room) (jm_Pc G S [.ref h0, va_rf x1]) (jm_Q G (none) Sf) mc ms (jm_A G) := by
  refine Met.ofW (cc := cX7_beginEpoch) (maxL := 6) (ret := none) (by decide) rfl ?_
  intro p e s m args below meth c s₁ B hml hv
  obtain ⟨rfl, hJ, hX⟩ := hv
  have C : jm_C G cX7_beginEpoch 6 RX7 wsX7_beginEpoch (none) p s m _ meth c := ⟨B.exec, B.bytes, hml, findClass_of_methodNamed B.named, atoms_spec (ws := wsX7_beginEpoch) B.pre, B.returns, B.notSynchronized, hX⟩
  obtain ⟨ls, he, hl⟩ := jm_entry m [.inr (some h0), .inr x1] (n := 6) (Nat.le_of_ble_eq_true rfl)
  have he : entryFrame m ([.ref h0, va_rf x1] : List Value).toArray 6 = F0 m 0 ls [] := he
  rw [he]
  exact kX7_beginEpoch C (n0 := S.2.1) (m0 := S.2.2.1) hr1 hr2 h0 x1 hf hJ va_S.rf (hl.sub [0, 1] rfl) (by omega) (by omega)
/-! CoordinationService.elect -/
def fX7_elect (h0 : Nat) : jm_P Int32 := jm_rd (jm_gR (some h0) 8 6) fun v1 => (if v1 = none then jm_rd (jm_o (some h0) 8) fun a3 => jm_bd (fX7_countUp a3) fun v3 => jm_rd (jm_o (some h0) 8) fun a4 => jm_bd (fX7_quorum a4) fun v4 => (if v4 ≤ v3 then jm_rd (jm_o (some h0) 8) fun a6 => jm_bd (fX7_bestCandidate a6) fun v6 => (if v6 = none then jm_ret (-2) else jm_rd (jm_o (some h0) 8) fun a8 => jm_bd (fX7_beginEpoch a8 v6) fun _ => jm_rd (jm_gI v6 2 0) fun v9 => jm_ret v9) else jm_ret (-2)) else jm_ret (-2))
theorem inX7_elect_X7 : ∀ w ∈ wsX70, w ∈ wsX7_elect := fun _ h => List.mem_cons_of_mem _ (List.mem_append_left _ (List.mem_append_left _ (List.mem_append_left _ (List.mem_append_left _ (List.mem_append_left _ (List.mem_append_left _ (List.mem_append_left _ (List.mem_append_left _ (List.mem_append_right _ h)))))))))
theorem inX7_elect_X1 : ∀ w ∈ wsX10, w ∈ wsX7_elect := fun _ h => List.mem_cons_of_mem _ (List.mem_append_left _ (List.mem_append_left _ (List.mem_append_left _ (List.mem_append_left _ (List.mem_append_left _ (List.mem_append_left _ (List.mem_append_left _ (List.mem_append_right _ h))))))))
theorem moX7_elect (h0 : Nat) : jm_Mo (fX7_elect h0) := by
  unfold fX7_elect
  exact jm_Mo_rd (fun _ => jm_Mo_if (jm_Mo_rd (fun _ => jm_Mo_bd (moX7_countUp _) (fun _ => jm_Mo_rd (fun _ => jm_Mo_bd (moX7_quorum _) (fun _ => jm_Mo_if (jm_Mo_rd (fun _ => jm_Mo_bd (moX7_bestCandidate _) (fun _ => jm_Mo_if (jm_Mo_ret _) (jm_Mo_rd (fun _ => jm_Mo_bd (moX7_beginEpoch _ _) (fun _ => jm_Mo_rd (fun _ => jm_Mo_ret _))))))) (jm_Mo_ret _)))))) (jm_Mo_ret _))
set_option maxHeartbeats 4000000 in
set_option maxRecDepth 100000 in
theorem kX7_elect {rv : Int32} {Sf : jm_S} (C : jm_C G cX7_elect 2 RX7 wsX7_elect ((some .int)) p s m args meth c) {n0 m0 mc ms : Nat} (hr1 : Sf.2.1 ≤ n0 + mc) (hr2 : Sf.2.2.1 ≤ m0 + ms) : ∀ (h0 : Nat) {S : jm_S} {H : Heap} {locs : List Loc} {ls : Array Slot} {cells slots : Nat}, fX7_elect h0 S = some (rv, Sf) → jm_J G S H → va_S (jm_A G) s.heap H locs → jm_L ls 2 [(0, .inr (some h0))] → cells + n0 ≤ S.2.1 → slots + m0 ≤ S.2.2.1 → W p l e ({ frames := 9, cells := mc, slots := ms, locals := 221 } : Room) s m args below meth c H locs cells slots (MQ below (jm_Q G (some (.int rv)) Sf) args s mc ms (jm_A G)) (F0 m 0 ls []) := by
  intro h0 S H locs ls cells slots hf hJ hS hl hc1 hc2
  unfold fX7_elect at hf
  refine jw_aload_n C dX7_elect_0 rfl (hl.at 0 rfl) ?_
  obtain ⟨v1, h1, hf⟩ := jm_rd_ok hf
  refine jw_gR (Cn := RX7) (T := TX7) (N := 12) C hJ h1 rfl inX7_elect_X7 (by decide) (jm_w C 1 rfl) (fun _ h => h) dX7_elect_1 ?_
  refine jw_ifnonnull (tgt := 18) C dX7_elect_4 (by decide) (fun hq2 => ?_) (fun hq2 => ?_)
  · replace hf := jm_iff hf hq2
    refine lv_bipush (v := (-2)) C.1 C.2.1 dX7_elect_18 (by decide) ?_
    obtain ⟨rfl, rfl⟩ := jm_ret_ok hf
    exact jw_ri C hJ hS (by omega) (by omega) dX7_elect_20
  · replace hf := jm_ift hf hq2
    refine jw_aload_n C dX7_elect_7 rfl (hl.at 0 rfl) ?_
    obtain ⟨a3, o3, hf⟩ := jm_rd_ok hf
    obtain ⟨v3, S3, h3, hf⟩ := jm_bd_ok hf
    have e3 := moX7_countUp a3 _ _ _ h3
    have g3 := jm_mo hf (jm_Mo_rd (fun _ => jm_Mo_bd (moX7_quorum _) (fun _ => jm_Mo_if (jm_Mo_rd (fun _ => jm_Mo_bd (moX7_bestCandidate _) (fun _ => jm_Mo_if (jm_Mo_ret _) (jm_Mo_rd (fun _ => jm_Mo_bd (moX7_beginEpoch _ _) (fun _ => jm_Mo_rd (fun _ => jm_Mo_ret _))))))) (jm_Mo_ret _))))
    refine jw_cV (q := (RX7, TX7, 12)) C hJ hS o3 rfl (cX7_countUp_C l G a3 h3) (cwV 0 C.2.2.2.2.1 gX7_elect_X7_countUp rfl rfl rfl (by decide +kernel) ⟨Nat.le_of_ble_eq_true rfl, Nat.le_of_ble_eq_true rfl⟩) rfl hl.1 rfl (Nat.le_of_ble_eq_true rfl) dX7_elect_8 ⟨by show cells + 0 ≤ mc; omega, by show slots + 0 ≤ ms; omega⟩ (fun H locs hJ hS => ?_)
    replace hc1 : cells + 0 + n0 ≤ S3.2.1 := by omega
    replace hc2 : slots + 0 + m0 ≤ S3.2.2.1 := by omega
    generalize cells + 0 = cells at hc1 ⊢
    generalize slots + 0 = slots at hc2 ⊢
    refine jw_aload_n C dX7_elect_11 rfl (hl.at 0 rfl) ?_
    obtain ⟨a4, o4, hf⟩ := jm_rd_ok hf
    obtain ⟨v4, S4, h4, hf⟩ := jm_bd_ok hf
    have e4 := moX7_quorum a4 _ _ _ h4
    have g4 := jm_mo hf (jm_Mo_if (jm_Mo_rd (fun _ => jm_Mo_bd (moX7_bestCandidate _) (fun _ => jm_Mo_if (jm_Mo_ret _) (jm_Mo_rd (fun _ => jm_Mo_bd (moX7_beginEpoch _ _) (fun _ => jm_Mo_rd (fun _ => jm_Mo_ret _))))))) (jm_Mo_ret _))
    refine jw_cV (q := (RX7, TX7, 12)) C hJ hS o4 rfl (cX7_quorum_C l G a4 h4) (cwV 0 C.2.2.2.2.1 gX7_elect_X7_quorum rfl rfl rfl (by decide +kernel) ⟨Nat.le_of_ble_eq_true rfl, Nat.le_of_ble_eq_true rfl⟩) rfl hl.1 rfl (Nat.le_of_ble_eq_true rfl) dX7_elect_12 ⟨by show cells + 0 ≤ mc; omega, by show slots + 0 ≤ ms; omega⟩ (fun H locs hJ hS => ?_)
    replace hc1 : cells + 0 + n0 ≤ S4.2.1 := by omega
    replace hc2 : slots + 0 + m0 ≤ S4.2.2.1 := by omega
    generalize cells + 0 = cells at hc1 ⊢
    generalize slots + 0 = slots at hc2 ⊢
    refine lv_icmp_ge (tgt := 21) C.1 C.2.1 dX7_elect_15 (by decide) (fun hq5 => ?_) (fun hq5 => ?_)
    · replace hf := jm_ift hf hq5
      refine jw_aload_n C dX7_elect_21 rfl (hl.at 0 rfl) ?_
      obtain ⟨a6, o6, hf⟩ := jm_rd_ok hf
      obtain ⟨v6, S6, h6, hf⟩ := jm_bd_ok hf
      have e6 := moX7_bestCandidate a6 _ _ _ h6
      have g6 := jm_mo hf (jm_Mo_if (jm_Mo_ret _) (jm_Mo_rd (fun _ => jm_Mo_bd (moX7_beginEpoch _ _) (fun _ => jm_Mo_rd (fun _ => jm_Mo_ret _)))))
      refine jw_cV (q := (RX7, TX7, 12)) C hJ hS o6 rfl (cX7_bestCandidate_C l G a6 h6) (cwV 0 C.2.2.2.2.1 gX7_elect_X7_bestCandidate rfl rfl rfl (by decide +kernel) ⟨Nat.le_of_ble_eq_true rfl, Nat.le_of_ble_eq_true rfl⟩) rfl hl.1 rfl (Nat.le_of_ble_eq_true rfl) dX7_elect_22 ⟨by show cells + 0 ≤ mc; omega, by show slots + 0 ≤ ms; omega⟩ (fun H locs hJ hS => ?_)
      replace hc1 : cells + 0 + n0 ≤ S6.2.1 := by omega
      replace hc2 : slots + 0 + m0 ≤ S6.2.2.1 := by omega
      generalize cells + 0 = cells at hc1 ⊢
      generalize slots + 0 = slots at hc2 ⊢
      refine jw_astore_n C dX7_elect_25 rfl hl (by decide) rfl (fun ls hl => ?_)
      refine jw_aload_n C dX7_elect_26 rfl (hl.at 0 rfl) ?_
      refine jw_ifnonnull (tgt := 33) C dX7_elect_27 (by decide) (fun hq7 => ?_) (fun hq7 => ?_)
      · replace hf := jm_iff hf hq7
        refine jw_aload_n C dX7_elect_33 rfl (hl.at 1 rfl) ?_
        refine jw_aload_n C dX7_elect_34 rfl (hl.at 0 rfl) ?_
        obtain ⟨a8, o8, hf⟩ := jm_rd_ok hf
        obtain ⟨v8, S8, h8, hf⟩ := jm_bd_ok hf
        have e8 := moX7_beginEpoch a8 v6 _ _ _ h8
        have g8 := jm_mo hf (jm_Mo_rd (fun _ => jm_Mo_ret _))
        refine jw_cV (q := (RX7, TX7, 12)) C hJ hS o8 rfl (cX7_beginEpoch_C l G a8 v6 h8 (S8.2.1 - S6.2.1) (S8.2.2.1 - S6.2.2.1) (by omega) (by omega)) (cwV 1 C.2.2.2.2.1 gX7_elect_X7_beginEpoch rfl rfl rfl (by decide +kernel) ⟨Nat.le_of_ble_eq_true rfl, Nat.le_of_ble_eq_true rfl⟩) rfl hl.1 rfl (Nat.le_of_ble_eq_true rfl) dX7_elect_35 ⟨by show cells + _ ≤ mc; omega, by show slots + _ ≤ ms; omega⟩ (fun H locs hJ hS => ?_)
        replace hc1 : cells + (S8.2.1 - S6.2.1) + n0 ≤ S8.2.1 := by omega
        replace hc2 : slots + (S8.2.2.1 - S6.2.2.1) + m0 ≤ S8.2.2.1 := by omega
        generalize cells + (S8.2.1 - S6.2.1) = cells at hc1 ⊢
        generalize slots + (S8.2.2.1 - S6.2.2.1) = slots at hc2 ⊢
        refine jw_aload_n C dX7_elect_38 rfl (hl.at 0 rfl) ?_
        obtain ⟨v9, h9, hf⟩ := jm_rd_ok hf
        refine jw_gI (Cn := RX1) (T := TX1) (N := 7) C hJ h9 rfl inX7_elect_X1 (by decide) (jm_w C 2 rfl) (fun _ h => h) dX7_elect_39 ?_
        obtain ⟨rfl, rfl⟩ := jm_ret_ok hf
        exact jw_ri C hJ hS (by omega) (by omega) dX7_elect_42
      · replace hf := jm_ift hf hq7
        refine lv_bipush (v := (-2)) C.1 C.2.1 dX7_elect_30 (by decide) ?_
        obtain ⟨rfl, rfl⟩ := jm_ret_ok hf
        exact jw_ri C hJ hS (by omega) (by omega) dX7_elect_32
    · replace hf := jm_iff hf hq5
      refine lv_bipush (v := (-2)) C.1 C.2.1 dX7_elect_18 (by decide) ?_
      obtain ⟨rfl, rfl⟩ := jm_ret_ok hf
      exact jw_ri C hJ hS (by omega) (by omega) dX7_elect_20
set_option maxHeartbeats 4000000 in
set_option maxRecDepth 100000 in
theorem cX7_elect_C (l : Launch) (G : jm_G) (h0 : Nat) {S Sf : jm_S} {rv : Int32} (hf : fX7_elect h0 S = some (rv, Sf)) (mc ms : Nat) (hr1 : Sf.2.1 ≤ S.2.1 + mc) (hr2 : Sf.2.2.1 ≤ S.2.2.1 + ms) : Met l yX7_elect wsX7_elect ({ frames := 9, cells := mc, slots := ms, locals := 221 } : Room) (jm_Pc G S [.ref h0]) (jm_Q G (some (.int rv)) Sf) mc ms (jm_A G) := by
  refine Met.ofW (cc := cX7_elect) (maxL := 2) (ret := (some .int)) (by decide) rfl ?_
  intro p e s m args below meth c s₁ B hml hv
  obtain ⟨rfl, hJ, hX⟩ := hv
  have C : jm_C G cX7_elect 2 RX7 wsX7_elect ((some .int)) p s m _ meth c := ⟨B.exec, B.bytes, hml, findClass_of_methodNamed B.named, atoms_spec (ws := wsX7_elect) B.pre, B.returns, B.notSynchronized, hX⟩
  obtain ⟨ls, he, hl⟩ := jm_entry m [.inr (some h0)] (n := 2) (Nat.le_of_ble_eq_true rfl)
  have he : entryFrame m ([.ref h0] : List Value).toArray 2 = F0 m 0 ls [] := he
  rw [he]
  exact kX7_elect C (n0 := S.2.1) (m0 := S.2.2.1) hr1 hr2 h0 hf hJ va_S.rf (hl.sub [0] rfl) (by omega) (by omega)
/-! CoordinationService.commitWhatAQuorumHas -/
def fX7_commitWhatAQuorumHas_7 : Nat → Nat → Option Nat → Int32 → jm_P Unit
  | 0, _, _, _ => jm_no
  | n + 1, h0, x1, x2 => jm_rd (jm_gR x1 2 2) fun v2 => jm_rd (jm_o v2 0) fun a3 => jm_bd (fJx4a65c_size_8abf5 a3) fun v3 => (if v3 < x2 then jm_rd (jm_gI (some h0) 8 9) fun v5 => jm_rd (jm_gR (some h0) 8 2) fun v6 => jm_rd (jm_o x1 2) fun a7 => jm_bd (fX1_applyUpTo a7 v5 v6) fun v7 => jm_ret () else jm_rd (jm_o (some h0) 8) fun a8 => jm_bd (fX7_countActiveWithLogOf a8 x2) fun v8 => jm_rd (jm_o (some h0) 8) fun a9 => jm_bd (fX7_quorum a9) fun v9 => (if v8 < v9 then fX7_commitWhatAQuorumHas_7 n h0 x1 (x2 + 1) else jm_wr (jm_p (some h0) 8 9 (.inl x2)) <| fX7_commitWhatAQuorumHas_7 n h0 x1 (x2 + 1)))
def fX7_commitWhatAQuorumHas (h0 : Nat) (x1 : Option Nat) : jm_P Unit := jm_rd (jm_gI (some h0) 8 9) fun v1 => fX7_commitWhatAQuorumHas_7 4096 h0 x1 (v1 + 1)
theorem inX7_commitWhatAQuorumHas_X7 : ∀ w ∈ wsX70, w ∈ wsX7_commitWhatAQuorumHas := fun _ h => List.mem_cons_of_mem _ (List.mem_append_left _ (List.mem_append_left _ (List.mem_append_left _ (List.mem_append_left _ (List.mem_append_left _ (List.mem_append_left _ (List.mem_append_left _ (List.mem_append_left _ (List.mem_append_right _ h)))))))))
theorem inX7_commitWhatAQuorumHas_X1 : ∀ w ∈ wsX10, w ∈ wsX7_commitWhatAQuorumHas := fun _ h => List.mem_cons_of_mem _ (List.mem_append_left _ (List.mem_append_left _ (List.mem_append_left _ (List.mem_append_left _ (List.mem_append_left _ (List.mem_append_left _ (List.mem_append_left _ (List.mem_append_right _ h))))))))
theorem moX7_commitWhatAQuorumHas_7 : ∀ (n : Nat) (h0 : Nat) (x1 : Option Nat) (x2 : Int32), jm_Mo (fX7_commitWhatAQuorumHas_7 n h0 x1 x2) := by
  intro n
  induction n with
  | zero =>
    intro h0 x1 x2
    rw [fX7_commitWhatAQuorumHas_7]
    exact jm_Mo_no
  | succ n ih =>
    intro h0 x1 x2
    rw [fX7_commitWhatAQuorumHas_7]
    exact jm_Mo_rd (fun _ => jm_Mo_rd (fun _ => jm_Mo_bd (moJx4a65c_size_8abf5 _) (fun _ => jm_Mo_if (jm_Mo_rd (fun _ => jm_Mo_rd (fun _ => jm_Mo_rd (fun _ => jm_Mo_bd (moX1_applyUpTo _ _ _) (fun _ => jm_Mo_ret _))))) (jm_Mo_rd (fun _ => jm_Mo_bd (moX7_countActiveWithLogOf _ _) (fun _ => jm_Mo_rd (fun _ => jm_Mo_bd (moX7_quorum _) (fun _ => jm_Mo_if (ih _ _ _) (jm_Mo_wr jm_p_st (ih _ _ _))))))))))
set_option maxHeartbeats 4000000 in
set_option maxRecDepth 100000 in
theorem kX7_commitWhatAQuorumHas_7 {rv : Unit} {Sf : jm_S} (C : jm_C G cX7_commitWhatAQuorumHas 3 RX7 wsX7_commitWhatAQuorumHas (none) p s m args meth c) : ∀ (n : Nat) (h0 : Nat) (x1 : Option Nat) (x2 : Int32) {S : jm_S} {H : Heap} {locs : List Loc} {ls : Array Slot}, fX7_commitWhatAQuorumHas_7 n h0 x1 x2 S = some (rv, Sf) → jm_J G S H → va_S (jm_A G) s.heap H locs → jm_L ls 3 [(0, .inr (some h0)), (1, .inr x1), (2, .inl x2)] → W p l e ({ frames := 7, cells := 0, slots := 0, locals := 183 } : Room) s m args below meth c H locs 0 0 (MQ below (jm_Q G (none) Sf) args s 0 0 (jm_A G)) (F0 m 7 ls []) := by
  intro n
  induction n with
  | zero =>
    intro h0 x1 x2 S H locs ls hf
    rw [fX7_commitWhatAQuorumHas_7] at hf
    exact absurd hf (fun h => jm_no_ok h)
  | succ n ih =>
    intro h0 x1 x2 S H locs ls hf hJ hS hl
    rw [fX7_commitWhatAQuorumHas_7] at hf
    refine lv_iload_n C.1 C.2.1 dX7_commitWhatAQuorumHas_7 rfl (hl.at 2 rfl) ?_
    refine jw_aload_n C dX7_commitWhatAQuorumHas_8 rfl (hl.at 1 rfl) ?_
    obtain ⟨v2, h2, hf⟩ := jm_rd_ok hf
    refine jw_gR (Cn := RX1) (T := TX1) (N := 7) C hJ h2 rfl inX7_commitWhatAQuorumHas_X1 (by decide) (jm_w C 2 rfl) (fun _ h => h) dX7_commitWhatAQuorumHas_9 ?_
    obtain ⟨a3, o3, hf⟩ := jm_rd_ok hf
    obtain ⟨v3, S3, h3, hf⟩ := jm_bd_ok hf
    refine jw_cV (q := (RJx4a65c, TJx4a65c, 3)) C hJ hS o3 rfl (cJx4a65c_size_8abf5_C l G a3 h3) (cwV 0 C.2.2.2.2.1 gX7_commitWhatAQuorumHas_Jx4a65c_size_8abf5 rfl rfl rfl (by decide +kernel) ⟨Nat.le_of_ble_eq_true rfl, Nat.le_of_ble_eq_true rfl⟩) rfl hl.1 rfl (Nat.le_of_ble_eq_true rfl) dX7_commitWhatAQuorumHas_12 ⟨Nat.le_refl _, Nat.le_refl _⟩ (fun H locs hJ hS => ?_)
    refine lv_icmp_gt (tgt := 41) C.1 C.2.1 dX7_commitWhatAQuorumHas_15 (by decide) (fun hq4 => ?_) (fun hq4 => ?_)
    · replace hf := jm_ift hf hq4
      refine jw_aload_n C dX7_commitWhatAQuorumHas_41 rfl (hl.at 1 rfl) ?_
      refine jw_aload_n C dX7_commitWhatAQuorumHas_42 rfl (hl.at 0 rfl) ?_
      obtain ⟨v5, h5, hf⟩ := jm_rd_ok hf
      refine jw_gI (Cn := RX7) (T := TX7) (N := 12) C hJ h5 rfl inX7_commitWhatAQuorumHas_X7 (by decide) (jm_w C 1 rfl) (fun _ h => h) dX7_commitWhatAQuorumHas_43 ?_
      refine jw_aload_n C dX7_commitWhatAQuorumHas_46 rfl (hl.at 0 rfl) ?_
      obtain ⟨v6, h6, hf⟩ := jm_rd_ok hf
      refine jw_gR (Cn := RX7) (T := TX7) (N := 12) C hJ h6 rfl inX7_commitWhatAQuorumHas_X7 (by decide) (jm_w C 3 rfl) (fun _ h => h) dX7_commitWhatAQuorumHas_47 ?_
      obtain ⟨a7, o7, hf⟩ := jm_rd_ok hf
      obtain ⟨v7, S7, h7, hf⟩ := jm_bd_ok hf
      refine jw_cV (q := (RX1, TX1, 7)) C hJ hS o7 rfl (cX1_applyUpTo_C l G a7 v5 v6 h7) (cwV 2 C.2.2.2.2.1 gX7_commitWhatAQuorumHas_X1_applyUpTo rfl rfl rfl (by decide +kernel) ⟨Nat.le_of_ble_eq_true rfl, Nat.le_of_ble_eq_true rfl⟩) rfl hl.1 rfl (Nat.le_of_ble_eq_true rfl) dX7_commitWhatAQuorumHas_50 ⟨Nat.le_refl _, Nat.le_refl _⟩ (fun H locs hJ hS => ?_)
      refine lv_pop C.1 C.2.1 dX7_commitWhatAQuorumHas_53 rfl ?_
      obtain ⟨rfl, rfl⟩ := jm_ret_ok hf
      exact jw_rv C hJ hS (Nat.le_refl _) (Nat.le_refl _) dX7_commitWhatAQuorumHas_54
    · replace hf := jm_iff hf hq4
      refine jw_aload_n C dX7_commitWhatAQuorumHas_18 rfl (hl.at 0 rfl) ?_
      refine lv_iload_n C.1 C.2.1 dX7_commitWhatAQuorumHas_19 rfl (hl.at 2 rfl) ?_
      obtain ⟨a8, o8, hf⟩ := jm_rd_ok hf
      obtain ⟨v8, S8, h8, hf⟩ := jm_bd_ok hf
      refine jw_cV (q := (RX7, TX7, 12)) C hJ hS o8 rfl (cX7_countActiveWithLogOf_C l G a8 x2 h8) (cwV 1 C.2.2.2.2.1 gX7_commitWhatAQuorumHas_X7_countActiveWithLogOf rfl rfl rfl (by decide +kernel) ⟨Nat.le_of_ble_eq_true rfl, Nat.le_of_ble_eq_true rfl⟩) rfl hl.1 rfl (Nat.le_of_ble_eq_true rfl) dX7_commitWhatAQuorumHas_20 ⟨Nat.le_refl _, Nat.le_refl _⟩ (fun H locs hJ hS => ?_)
      refine jw_aload_n C dX7_commitWhatAQuorumHas_23 rfl (hl.at 0 rfl) ?_
      obtain ⟨a9, o9, hf⟩ := jm_rd_ok hf
      obtain ⟨v9, S9, h9, hf⟩ := jm_bd_ok hf
      refine jw_cV (q := (RX7, TX7, 12)) C hJ hS o9 rfl (cX7_quorum_C l G a9 h9) (cwV 0 C.2.2.2.2.1 gX7_commitWhatAQuorumHas_X7_quorum rfl rfl rfl (by decide +kernel) ⟨Nat.le_of_ble_eq_true rfl, Nat.le_of_ble_eq_true rfl⟩) rfl hl.1 rfl (Nat.le_of_ble_eq_true rfl) dX7_commitWhatAQuorumHas_24 ⟨Nat.le_refl _, Nat.le_refl _⟩ (fun H locs hJ hS => ?_)
      refine lv_icmp_lt (tgt := 35) C.1 C.2.1 dX7_commitWhatAQuorumHas_27 (by decide) (fun hq10 => ?_) (fun hq10 => ?_)
      · replace hf := jm_ift hf hq10
        refine jw_iinc (v := x2 + 1) C 2 dX7_commitWhatAQuorumHas_35 hl rfl (by rfl) (by decide) rfl (fun ls hl => ?_)
        refine lv_goto (tgt := 7) C.1 C.2.1 dX7_commitWhatAQuorumHas_38 (by decide) ?_
        exact ih h0 x1 (x2 + 1) hf hJ hS (hl.sub [1, 2, 0] rfl)
      · replace hf := jm_iff hf hq10
        refine jw_aload_n C dX7_commitWhatAQuorumHas_30 rfl (hl.at 0 rfl) ?_
        refine lv_iload_n C.1 C.2.1 dX7_commitWhatAQuorumHas_31 rfl (hl.at 2 rfl) ?_
        obtain ⟨S11, h11, hf⟩ := jm_wr_ok hf
        refine jw_p (x := .inl x2) (ty := .int) (Cn := RX7) (T := TX7) (N := 12) C hJ hS h11 rfl inX7_commitWhatAQuorumHas_X7 tyX7 tyX7_ok nmX7 (by decide) (jm_w C 1 rfl) (fun _ h => h) rfl (by decide +kernel) rfl rfl dX7_commitWhatAQuorumHas_32 (fun H locs hJ hS => ?_)
        refine jw_iinc (v := x2 + 1) C 2 dX7_commitWhatAQuorumHas_35 hl rfl (by rfl) (by decide) rfl (fun ls hl => ?_)
        refine lv_goto (tgt := 7) C.1 C.2.1 dX7_commitWhatAQuorumHas_38 (by decide) ?_
        exact ih h0 x1 (x2 + 1) hf hJ hS (hl.sub [1, 2, 0] rfl)
theorem moX7_commitWhatAQuorumHas (h0 : Nat) (x1 : Option Nat) : jm_Mo (fX7_commitWhatAQuorumHas h0 x1) := by
  unfold fX7_commitWhatAQuorumHas
  exact jm_Mo_rd (fun _ => moX7_commitWhatAQuorumHas_7 _ _ _ _)
set_option maxHeartbeats 4000000 in
set_option maxRecDepth 100000 in
theorem kX7_commitWhatAQuorumHas {rv : Unit} {Sf : jm_S} (C : jm_C G cX7_commitWhatAQuorumHas 3 RX7 wsX7_commitWhatAQuorumHas (none) p s m args meth c) : ∀ (h0 : Nat) (x1 : Option Nat) {S : jm_S} {H : Heap} {locs : List Loc} {ls : Array Slot}, fX7_commitWhatAQuorumHas h0 x1 S = some (rv, Sf) → jm_J G S H → va_S (jm_A G) s.heap H locs → jm_L ls 3 [(0, .inr (some h0)), (1, .inr x1)] → W p l e ({ frames := 7, cells := 0, slots := 0, locals := 183 } : Room) s m args below meth c H locs 0 0 (MQ below (jm_Q G (none) Sf) args s 0 0 (jm_A G)) (F0 m 0 ls []) := by
  intro h0 x1 S H locs ls hf hJ hS hl
  unfold fX7_commitWhatAQuorumHas at hf
  refine jw_aload_n C dX7_commitWhatAQuorumHas_0 rfl (hl.at 0 rfl) ?_
  obtain ⟨v1, h1, hf⟩ := jm_rd_ok hf
  refine jw_gI (Cn := RX7) (T := TX7) (N := 12) C hJ h1 rfl inX7_commitWhatAQuorumHas_X7 (by decide) (jm_w C 1 rfl) (fun _ h => h) dX7_commitWhatAQuorumHas_1 ?_
  refine lv_iconst (v := 1) C.1 C.2.1 dX7_commitWhatAQuorumHas_4 (by decide) ?_
  refine lv_iadd C.1 C.2.1 dX7_commitWhatAQuorumHas_5 ?_
  refine jw_istore_n C dX7_commitWhatAQuorumHas_6 rfl hl (by decide) rfl (fun ls hl => ?_)
  exact kX7_commitWhatAQuorumHas_7 C 4096 h0 x1 (v1 + 1) hf hJ hS (hl.sub [1, 2, 0] rfl)
set_option maxHeartbeats 4000000 in
set_option maxRecDepth 100000 in
theorem cX7_commitWhatAQuorumHas_C (l : Launch) (G : jm_G) (h0 : Nat) (x1 : Option Nat) {S Sf : jm_S} {rv : Unit} (hf : fX7_commitWhatAQuorumHas h0 x1 S = some (rv, Sf)) : Met l yX7_commitWhatAQuorumHas wsX7_commitWhatAQuorumHas ({ frames := 7, cells := 0, slots := 0, locals := 183 } : Room) (jm_Pc G S [.ref h0, va_rf x1]) (jm_Q G (none) Sf) 0 0 (jm_A G) := by
  refine Met.ofW (cc := cX7_commitWhatAQuorumHas) (maxL := 3) (ret := none) (by decide) rfl ?_
  intro p e s m args below meth c s₁ B hml hv
  obtain ⟨rfl, hJ, hX⟩ := hv
  have C : jm_C G cX7_commitWhatAQuorumHas 3 RX7 wsX7_commitWhatAQuorumHas (none) p s m _ meth c := ⟨B.exec, B.bytes, hml, findClass_of_methodNamed B.named, atoms_spec (ws := wsX7_commitWhatAQuorumHas) B.pre, B.returns, B.notSynchronized, hX⟩
  obtain ⟨ls, he, hl⟩ := jm_entry m [.inr (some h0), .inr x1] (n := 3) (Nat.le_of_ble_eq_true rfl)
  have he : entryFrame m ([.ref h0, va_rf x1] : List Value).toArray 3 = F0 m 0 ls [] := he
  rw [he]
  exact kX7_commitWhatAQuorumHas C h0 x1 hf hJ va_S.rf (hl.sub [0, 1] rfl)
/-! CoordinationService.synchronize -/
def fX7_synchronize (h0 : Nat) (x1 : Int32) : jm_P Int32 := jm_rd (jm_o (some h0) 8) fun a1 => jm_bd (fX7_findServer a1 x1) fun v1 => (if v1 = none then jm_ret (-1) else jm_rd (jm_gR (some h0) 8 6) fun v3 => (if v3 = none then jm_ret (-2) else jm_rd (jm_gI v1 2 3) fun v5 => (if v5 = 0 then jm_ret (-2) else jm_rd (jm_gI v1 2 4) fun v7 => (if v7 = 0 then jm_rd (jm_gR (some h0) 8 6) fun v9 => jm_rd (jm_o v1 2) fun a10 => jm_bd (fX1_copyLogOf a10 v9) fun v10 => jm_rd (jm_z 1) fun _ => jm_wr (jm_p v1 2 4 (.inl 1)) <| jm_rd (jm_gI (some h0) 8 7) fun v12 => jm_wr (jm_p v1 2 5 (.inl v12)) <| jm_rd (jm_gR (some h0) 8 6) fun v14 => jm_rd (jm_o (some h0) 8) fun a15 => jm_bd (fX7_commitWhatAQuorumHas a15 v14) fun _ => jm_rd (jm_gI (some h0) 8 9) fun v16 => jm_rd (jm_gR (some h0) 8 2) fun v17 => jm_rd (jm_o v1 2) fun a18 => jm_bd (fX1_applyUpTo a18 v16 v17) fun v18 => jm_ret v10 else jm_ret (-2)))))
theorem inX7_synchronize_X7 : ∀ w ∈ wsX70, w ∈ wsX7_synchronize := fun _ h => List.mem_cons_of_mem _ (List.mem_append_left _ (List.mem_append_left _ (List.mem_append_left _ (List.mem_append_left _ (List.mem_append_left _ (List.mem_append_left _ (List.mem_append_left _ (List.mem_append_left _ (List.mem_append_right _ h)))))))))
theorem inX7_synchronize_X1 : ∀ w ∈ wsX10, w ∈ wsX7_synchronize := fun _ h => List.mem_cons_of_mem _ (List.mem_append_left _ (List.mem_append_left _ (List.mem_append_left _ (List.mem_append_left _ (List.mem_append_left _ (List.mem_append_left _ (List.mem_append_left _ (List.mem_append_right _ h))))))))
theorem moX7_synchronize (h0 : Nat) (x1 : Int32) : jm_Mo (fX7_synchronize h0 x1) := by
  unfold fX7_synchronize
  exact jm_Mo_rd (fun _ => jm_Mo_bd (moX7_findServer _ _) (fun _ => jm_Mo_if (jm_Mo_ret _) (jm_Mo_rd (fun _ => jm_Mo_if (jm_Mo_ret _) (jm_Mo_rd (fun _ => jm_Mo_if (jm_Mo_ret _) (jm_Mo_rd (fun _ => jm_Mo_if (jm_Mo_rd (fun _ => jm_Mo_rd (fun _ => jm_Mo_bd (moX1_copyLogOf _ _) (fun _ => jm_Mo_rd (fun _ => jm_Mo_wr jm_p_st (jm_Mo_rd (fun _ => jm_Mo_wr jm_p_st (jm_Mo_rd (fun _ => jm_Mo_rd (fun _ => jm_Mo_bd (moX7_commitWhatAQuorumHas _ _) (fun _ => jm_Mo_rd (fun _ => jm_Mo_rd (fun _ => jm_Mo_rd (fun _ => jm_Mo_bd (moX1_applyUpTo _ _ _) (fun _ => jm_Mo_ret _))))))))))))))) (jm_Mo_ret _)))))))))
set_option maxHeartbeats 4000000 in
set_option maxRecDepth 100000 in
theorem kX7_synchronize {rv : Int32} {Sf : jm_S} (C : jm_C G cX7_synchronize 4 RX7 wsX7_synchronize ((some .int)) p s m args meth c) {n0 m0 mc ms : Nat} (hr1 : Sf.2.1 ≤ n0 + mc) (hr2 : Sf.2.2.1 ≤ m0 + ms) : ∀ (h0 : Nat) (x1 : Int32) {S : jm_S} {H : Heap} {locs : List Loc} {ls : Array Slot} {cells slots : Nat}, fX7_synchronize h0 x1 S = some (rv, Sf) → jm_J G S H → va_S (jm_A G) s.heap H locs → jm_L ls 4 [(0, .inr (some h0)), (1, .inl x1)] → cells + n0 ≤ S.2.1 → slots + m0 ≤ S.2.2.1 → W p l e ({ frames := 8, cells := mc, slots := ms, locals := 205 } : Room) s m args below meth c H locs cells slots (MQ below (jm_Q G (some (.int rv)) Sf) args s mc ms (jm_A G)) (F0 m 0 ls []) := by
  intro h0 x1 S H locs ls cells slots hf hJ hS hl hc1 hc2
  unfold fX7_synchronize at hf
  refine jw_aload_n C dX7_synchronize_0 rfl (hl.at 0 rfl) ?_
  refine lv_iload_n C.1 C.2.1 dX7_synchronize_1 rfl (hl.at 1 rfl) ?_
  obtain ⟨a1, o1, hf⟩ := jm_rd_ok hf
  obtain ⟨v1, S1, h1, hf⟩ := jm_bd_ok hf
  have e1 := moX7_findServer a1 x1 _ _ _ h1
  have g1 := jm_mo hf (jm_Mo_if (jm_Mo_ret _) (jm_Mo_rd (fun _ => jm_Mo_if (jm_Mo_ret _) (jm_Mo_rd (fun _ => jm_Mo_if (jm_Mo_ret _) (jm_Mo_rd (fun _ => jm_Mo_if (jm_Mo_rd (fun _ => jm_Mo_rd (fun _ => jm_Mo_bd (moX1_copyLogOf _ _) (fun _ => jm_Mo_rd (fun _ => jm_Mo_wr jm_p_st (jm_Mo_rd (fun _ => jm_Mo_wr jm_p_st (jm_Mo_rd (fun _ => jm_Mo_rd (fun _ => jm_Mo_bd (moX7_commitWhatAQuorumHas _ _) (fun _ => jm_Mo_rd (fun _ => jm_Mo_rd (fun _ => jm_Mo_rd (fun _ => jm_Mo_bd (moX1_applyUpTo _ _ _) (fun _ => jm_Mo_ret _))))))))))))))) (jm_Mo_ret _))))))))
  refine jw_cV (q := (RX7, TX7, 12)) C hJ hS o1 rfl (cX7_findServer_C l G a1 x1 h1) (cwV 1 C.2.2.2.2.1 gX7_synchronize_X7_findServer rfl rfl rfl (by decide +kernel) ⟨Nat.le_of_ble_eq_true rfl, Nat.le_of_ble_eq_true rfl⟩) rfl hl.1 rfl (Nat.le_of_ble_eq_true rfl) dX7_synchronize_2 ⟨by show cells + 0 ≤ mc; omega, by show slots + 0 ≤ ms; omega⟩ (fun H locs hJ hS => ?_)
  replace hc1 : cells + 0 + n0 ≤ S1.2.1 := by omega
  replace hc2 : slots + 0 + m0 ≤ S1.2.2.1 := by omega
  generalize cells + 0 = cells at hc1 ⊢
  generalize slots + 0 = slots at hc2 ⊢
  refine jw_astore_n C dX7_synchronize_5 rfl hl (by decide) rfl (fun ls hl => ?_)
  refine jw_aload_n C dX7_synchronize_6 rfl (hl.at 0 rfl) ?_
  refine jw_ifnonnull (tgt := 12) C dX7_synchronize_7 (by decide) (fun hq2 => ?_) (fun hq2 => ?_)
  · replace hf := jm_iff hf hq2
    refine jw_aload_n C dX7_synchronize_12 rfl (hl.at 1 rfl) ?_
    obtain ⟨v3, h3, hf⟩ := jm_rd_ok hf
    refine jw_gR (Cn := RX7) (T := TX7) (N := 12) C hJ h3 rfl inX7_synchronize_X7 (by decide) (jm_w C 1 rfl) (fun _ h => h) dX7_synchronize_13 ?_
    refine jw_ifnull (tgt := 33) C dX7_synchronize_16 (by decide) (fun hq4 => ?_) (fun hq4 => ?_)
    · replace hf := jm_ift hf hq4
      refine lv_bipush (v := (-2)) C.1 C.2.1 dX7_synchronize_33 (by decide) ?_
      obtain ⟨rfl, rfl⟩ := jm_ret_ok hf
      exact jw_ri C hJ hS (by omega) (by omega) dX7_synchronize_35
    · replace hf := jm_iff hf hq4
      refine jw_aload_n C dX7_synchronize_19 rfl (hl.at 0 rfl) ?_
      obtain ⟨v5, h5, hf⟩ := jm_rd_ok hf
      refine jw_gI (Cn := RX1) (T := TX1) (N := 7) C hJ h5 rfl inX7_synchronize_X1 (by decide) (jm_w C 2 rfl) (fun _ h => h) dX7_synchronize_20 ?_
      refine lv_if_eq (tgt := 33) C.1 C.2.1 dX7_synchronize_23 (by decide) (fun hq6 => ?_) (fun hq6 => ?_)
      · replace hf := jm_ift hf hq6
        refine lv_bipush (v := (-2)) C.1 C.2.1 dX7_synchronize_33 (by decide) ?_
        obtain ⟨rfl, rfl⟩ := jm_ret_ok hf
        exact jw_ri C hJ hS (by omega) (by omega) dX7_synchronize_35
      · replace hf := jm_iff hf hq6
        refine jw_aload_n C dX7_synchronize_26 rfl (hl.at 0 rfl) ?_
        obtain ⟨v7, h7, hf⟩ := jm_rd_ok hf
        refine jw_gI (Cn := RX1) (T := TX1) (N := 7) C hJ h7 rfl inX7_synchronize_X1 (by decide) (jm_w C 3 rfl) (fun _ h => h) dX7_synchronize_27 ?_
        refine lv_if_eq (tgt := 36) C.1 C.2.1 dX7_synchronize_30 (by decide) (fun hq8 => ?_) (fun hq8 => ?_)
        · replace hf := jm_ift hf hq8
          refine jw_aload_n C dX7_synchronize_36 rfl (hl.at 0 rfl) ?_
          refine jw_aload_n C dX7_synchronize_37 rfl (hl.at 1 rfl) ?_
          obtain ⟨v9, h9, hf⟩ := jm_rd_ok hf
          refine jw_gR (Cn := RX7) (T := TX7) (N := 12) C hJ h9 rfl inX7_synchronize_X7 (by decide) (jm_w C 1 rfl) (fun _ h => h) dX7_synchronize_38 ?_
          obtain ⟨a10, o10, hf⟩ := jm_rd_ok hf
          obtain ⟨v10, S10, h10, hf⟩ := jm_bd_ok hf
          have e10 := moX1_copyLogOf a10 v9 _ _ _ h10
          have g10 := jm_mo hf (jm_Mo_rd (fun _ => jm_Mo_wr jm_p_st (jm_Mo_rd (fun _ => jm_Mo_wr jm_p_st (jm_Mo_rd (fun _ => jm_Mo_rd (fun _ => jm_Mo_bd (moX7_commitWhatAQuorumHas _ _) (fun _ => jm_Mo_rd (fun _ => jm_Mo_rd (fun _ => jm_Mo_rd (fun _ => jm_Mo_bd (moX1_applyUpTo _ _ _) (fun _ => jm_Mo_ret _))))))))))))
          refine jw_cV (q := (RX1, TX1, 7)) C hJ hS o10 rfl (cX1_copyLogOf_C l G a10 v9 h10 (S10.2.1 - S1.2.1) (S10.2.2.1 - S1.2.2.1) (by omega) (by omega)) (cwV 1 C.2.2.2.2.1 gX7_synchronize_X1_copyLogOf rfl rfl rfl (by decide +kernel) ⟨Nat.le_of_ble_eq_true rfl, Nat.le_of_ble_eq_true rfl⟩) rfl hl.1 rfl (Nat.le_of_ble_eq_true rfl) dX7_synchronize_41 ⟨by show cells + _ ≤ mc; omega, by show slots + _ ≤ ms; omega⟩ (fun H locs hJ hS => ?_)
          replace hc1 : cells + (S10.2.1 - S1.2.1) + n0 ≤ S10.2.1 := by omega
          replace hc2 : slots + (S10.2.2.1 - S1.2.2.1) + m0 ≤ S10.2.2.1 := by omega
          generalize cells + (S10.2.1 - S1.2.1) = cells at hc1 ⊢
          generalize slots + (S10.2.2.1 - S1.2.2.1) = slots at hc2 ⊢
          refine jw_istore_n C dX7_synchronize_44 rfl hl (by decide) rfl (fun ls hl => ?_)
          refine jw_aload_n C dX7_synchronize_45 rfl (hl.at 1 rfl) ?_
          refine lv_iconst (v := 1) C.1 C.2.1 dX7_synchronize_46 (by decide) ?_
          obtain ⟨u11, z11, hf⟩ := jm_rd_ok hf
          obtain ⟨S11, h11, hf⟩ := jm_wr_ok hf
          have e11 := jm_p_st _ _ h11
          rw [← e11] at hc1 hc2
          refine jw_p (x := .inl 1) (ty := .boolean) (Cn := RX1) (T := TX1) (N := 7) C hJ hS h11 rfl inX7_synchronize_X1 tyX1 tyX1_ok nmX1 (by decide) (jm_w C 3 rfl) (fun _ h => h) rfl (by decide +kernel) (jm_nz z11).1 (jm_nz z11).2.1 dX7_synchronize_47 (fun H locs hJ hS => ?_)
          refine jw_aload_n C dX7_synchronize_50 rfl (hl.at 1 rfl) ?_
          refine jw_aload_n C dX7_synchronize_51 rfl (hl.at 2 rfl) ?_
          obtain ⟨v12, h12, hf⟩ := jm_rd_ok hf
          refine jw_gI (Cn := RX7) (T := TX7) (N := 12) C hJ h12 rfl inX7_synchronize_X7 (by decide) (jm_w C 4 rfl) (fun _ h => h) dX7_synchronize_52 ?_
          obtain ⟨S13, h13, hf⟩ := jm_wr_ok hf
          have e13 := jm_p_st _ _ h13
          rw [← e13] at hc1 hc2
          refine jw_p (x := .inl v12) (ty := .int) (Cn := RX1) (T := TX1) (N := 7) C hJ hS h13 rfl inX7_synchronize_X1 tyX1 tyX1_ok nmX1 (by decide) (jm_w C 5 rfl) (fun _ h => h) rfl (by decide +kernel) rfl rfl dX7_synchronize_55 (fun H locs hJ hS => ?_)
          refine jw_aload_n C dX7_synchronize_58 rfl (hl.at 2 rfl) ?_
          refine jw_aload_n C dX7_synchronize_59 rfl (hl.at 2 rfl) ?_
          obtain ⟨v14, h14, hf⟩ := jm_rd_ok hf
          refine jw_gR (Cn := RX7) (T := TX7) (N := 12) C hJ h14 rfl inX7_synchronize_X7 (by decide) (jm_w C 1 rfl) (fun _ h => h) dX7_synchronize_60 ?_
          obtain ⟨a15, o15, hf⟩ := jm_rd_ok hf
          obtain ⟨v15, S15, h15, hf⟩ := jm_bd_ok hf
          have e15 := moX7_commitWhatAQuorumHas a15 v14 _ _ _ h15
          have g15 := jm_mo hf (jm_Mo_rd (fun _ => jm_Mo_rd (fun _ => jm_Mo_rd (fun _ => jm_Mo_bd (moX1_applyUpTo _ _ _) (fun _ => jm_Mo_ret _)))))
          refine jw_cV (q := (RX7, TX7, 12)) C hJ hS o15 rfl (cX7_commitWhatAQuorumHas_C l G a15 v14 h15) (cwV 1 C.2.2.2.2.1 gX7_synchronize_X7_commitWhatAQuorumHas rfl rfl rfl (by decide +kernel) ⟨Nat.le_of_ble_eq_true rfl, Nat.le_of_ble_eq_true rfl⟩) rfl hl.1 rfl (Nat.le_of_ble_eq_true rfl) dX7_synchronize_63 ⟨by show cells + 0 ≤ mc; omega, by show slots + 0 ≤ ms; omega⟩ (fun H locs hJ hS => ?_)
          replace hc1 : cells + 0 + n0 ≤ S15.2.1 := by omega
          replace hc2 : slots + 0 + m0 ≤ S15.2.2.1 := by omega
          generalize cells + 0 = cells at hc1 ⊢
          generalize slots + 0 = slots at hc2 ⊢
          refine jw_aload_n C dX7_synchronize_66 rfl (hl.at 1 rfl) ?_
          refine jw_aload_n C dX7_synchronize_67 rfl (hl.at 2 rfl) ?_
          obtain ⟨v16, h16, hf⟩ := jm_rd_ok hf
          refine jw_gI (Cn := RX7) (T := TX7) (N := 12) C hJ h16 rfl inX7_synchronize_X7 (by decide) (jm_w C 6 rfl) (fun _ h => h) dX7_synchronize_68 ?_
          refine jw_aload_n C dX7_synchronize_71 rfl (hl.at 2 rfl) ?_
          obtain ⟨v17, h17, hf⟩ := jm_rd_ok hf
          refine jw_gR (Cn := RX7) (T := TX7) (N := 12) C hJ h17 rfl inX7_synchronize_X7 (by decide) (jm_w C 7 rfl) (fun _ h => h) dX7_synchronize_72 ?_
          obtain ⟨a18, o18, hf⟩ := jm_rd_ok hf
          obtain ⟨v18, S18, h18, hf⟩ := jm_bd_ok hf
          have e18 := moX1_applyUpTo a18 v16 v17 _ _ _ h18
          have g18 := jm_mo hf (jm_Mo_ret _)
          refine jw_cV (q := (RX1, TX1, 7)) C hJ hS o18 rfl (cX1_applyUpTo_C l G a18 v16 v17 h18) (cwV 2 C.2.2.2.2.1 gX7_synchronize_X1_applyUpTo rfl rfl rfl (by decide +kernel) ⟨Nat.le_of_ble_eq_true rfl, Nat.le_of_ble_eq_true rfl⟩) rfl hl.1 rfl (Nat.le_of_ble_eq_true rfl) dX7_synchronize_75 ⟨by show cells + 0 ≤ mc; omega, by show slots + 0 ≤ ms; omega⟩ (fun H locs hJ hS => ?_)
          replace hc1 : cells + 0 + n0 ≤ S18.2.1 := by omega
          replace hc2 : slots + 0 + m0 ≤ S18.2.2.1 := by omega
          generalize cells + 0 = cells at hc1 ⊢
          generalize slots + 0 = slots at hc2 ⊢
          refine lv_pop C.1 C.2.1 dX7_synchronize_78 rfl ?_
          refine lv_iload_n C.1 C.2.1 dX7_synchronize_79 rfl (hl.at 0 rfl) ?_
          obtain ⟨rfl, rfl⟩ := jm_ret_ok hf
          exact jw_ri C hJ hS (by omega) (by omega) dX7_synchronize_80
        · replace hf := jm_iff hf hq8
          refine lv_bipush (v := (-2)) C.1 C.2.1 dX7_synchronize_33 (by decide) ?_
          obtain ⟨rfl, rfl⟩ := jm_ret_ok hf
          exact jw_ri C hJ hS (by omega) (by omega) dX7_synchronize_35
  · replace hf := jm_ift hf hq2
    refine lv_iconst (v := (-1)) C.1 C.2.1 dX7_synchronize_10 (by decide) ?_
    obtain ⟨rfl, rfl⟩ := jm_ret_ok hf
    exact jw_ri C hJ hS (by omega) (by omega) dX7_synchronize_11
set_option maxHeartbeats 4000000 in
set_option maxRecDepth 100000 in
theorem cX7_synchronize_C (l : Launch) (G : jm_G) (h0 : Nat) (x1 : Int32) {S Sf : jm_S} {rv : Int32} (hf : fX7_synchronize h0 x1 S = some (rv, Sf)) (mc ms : Nat) (hr1 : Sf.2.1 ≤ S.2.1 + mc) (hr2 : Sf.2.2.1 ≤ S.2.2.1 + ms) : Met l yX7_synchronize wsX7_synchronize ({ frames := 8, cells := mc, slots := ms, locals := 205 } : Room) (jm_Pc G S [.ref h0, .int x1]) (jm_Q G (some (.int rv)) Sf) mc ms (jm_A G) := by
  refine Met.ofW (cc := cX7_synchronize) (maxL := 4) (ret := (some .int)) (by decide) rfl ?_
  intro p e s m args below meth c s₁ B hml hv
  obtain ⟨rfl, hJ, hX⟩ := hv
  have C : jm_C G cX7_synchronize 4 RX7 wsX7_synchronize ((some .int)) p s m _ meth c := ⟨B.exec, B.bytes, hml, findClass_of_methodNamed B.named, atoms_spec (ws := wsX7_synchronize) B.pre, B.returns, B.notSynchronized, hX⟩
  obtain ⟨ls, he, hl⟩ := jm_entry m [.inr (some h0), .inl x1] (n := 4) (Nat.le_of_ble_eq_true rfl)
  have he : entryFrame m ([.ref h0, .int x1] : List Value).toArray 4 = F0 m 0 ls [] := he
  rw [he]
  exact kX7_synchronize C (n0 := S.2.1) (m0 := S.2.2.1) hr1 hr2 h0 x1 hf hJ va_S.rf (hl.sub [0, 1] rfl) (by omega) (by omega)
/-! CoordinationService.isFollower -/
def fX7_isFollower (h0 : Nat) (x1 : Option Nat) : jm_P Int32 := jm_rd (jm_gI x1 2 4) fun v1 => (if v1 = 0 then jm_rd (jm_z 0) fun _ => jm_ret 0 else jm_rd (jm_gR (some h0) 8 6) fun v4 => (if x1 = v4 then jm_rd (jm_z 0) fun _ => jm_ret 0 else jm_rd (jm_z 1) fun _ => jm_ret 1))
theorem inX7_isFollower_X1 : ∀ w ∈ wsX10, w ∈ wsX7_isFollower := fun _ h => List.mem_cons_of_mem _ (List.mem_append_left _ (List.mem_append_right _ h))
theorem inX7_isFollower_X7 : ∀ w ∈ wsX70, w ∈ wsX7_isFollower := fun _ h => List.mem_cons_of_mem _ (List.mem_append_right _ h)
theorem moX7_isFollower (h0 : Nat) (x1 : Option Nat) : jm_Mo (fX7_isFollower h0 x1) := by
  unfold fX7_isFollower
  exact jm_Mo_rd (fun _ => jm_Mo_if (jm_Mo_rd (fun _ => jm_Mo_ret _)) (jm_Mo_rd (fun _ => jm_Mo_if (jm_Mo_rd (fun _ => jm_Mo_ret _)) (jm_Mo_rd (fun _ => jm_Mo_ret _)))))
set_option maxHeartbeats 4000000 in
set_option maxRecDepth 100000 in
theorem kX7_isFollower {rv : Int32} {Sf : jm_S} (C : jm_C G cX7_isFollower 2 RX7 wsX7_isFollower ((some .boolean)) p s m args meth c) : ∀ (h0 : Nat) (x1 : Option Nat) {S : jm_S} {H : Heap} {locs : List Loc} {ls : Array Slot}, fX7_isFollower h0 x1 S = some (rv, Sf) → jm_J G S H → va_S (jm_A G) s.heap H locs → jm_L ls 2 [(0, .inr (some h0)), (1, .inr x1)] → W p l e ({ frames := 0, cells := 0, slots := 0, locals := 0 } : Room) s m args below meth c H locs 0 0 (MQ below (jm_Q G (some (.int rv)) Sf) args s 0 0 (jm_A G)) (F0 m 0 ls []) := by
  intro h0 x1 S H locs ls hf hJ hS hl
  unfold fX7_isFollower at hf
  refine jw_aload_n C dX7_isFollower_0 rfl (hl.at 1 rfl) ?_
  obtain ⟨v1, h1, hf⟩ := jm_rd_ok hf
  refine jw_gI (Cn := RX1) (T := TX1) (N := 7) C hJ h1 rfl inX7_isFollower_X1 (by decide) (jm_w C 1 rfl) (fun _ h => h) dX7_isFollower_1 ?_
  refine lv_if_eq (tgt := 19) C.1 C.2.1 dX7_isFollower_4 (by decide) (fun hq2 => ?_) (fun hq2 => ?_)
  · replace hf := jm_ift hf hq2
    refine lv_iconst (v := 0) C.1 C.2.1 dX7_isFollower_19 (by decide) ?_
    obtain ⟨u3, z3, hf⟩ := jm_rd_ok hf
    obtain ⟨rfl, rfl⟩ := jm_ret_ok hf
    exact jw_rz C hJ hS z3 (Nat.le_refl _) (Nat.le_refl _) dX7_isFollower_20
  · replace hf := jm_iff hf hq2
    refine jw_aload_n C dX7_isFollower_7 rfl (hl.at 1 rfl) ?_
    refine jw_aload_n C dX7_isFollower_8 rfl (hl.at 0 rfl) ?_
    obtain ⟨v4, h4, hf⟩ := jm_rd_ok hf
    refine jw_gR (Cn := RX7) (T := TX7) (N := 12) C hJ h4 rfl inX7_isFollower_X7 (by decide) (jm_w C 2 rfl) (fun _ h => h) dX7_isFollower_9 ?_
    refine lv_acmp_eq (rx := x1) (ry := v4) (tgt := 19) C.1 C.2.1 dX7_isFollower_12 (by decide) (fun hq5 => ?_) (fun hq5 => ?_)
    · replace hf := jm_ift hf hq5
      refine lv_iconst (v := 0) C.1 C.2.1 dX7_isFollower_19 (by decide) ?_
      obtain ⟨u6, z6, hf⟩ := jm_rd_ok hf
      obtain ⟨rfl, rfl⟩ := jm_ret_ok hf
      exact jw_rz C hJ hS z6 (Nat.le_refl _) (Nat.le_refl _) dX7_isFollower_20
    · replace hf := jm_iff hf hq5
      refine lv_iconst (v := 1) C.1 C.2.1 dX7_isFollower_15 (by decide) ?_
      refine lv_goto (tgt := 20) C.1 C.2.1 dX7_isFollower_16 (by decide) ?_
      obtain ⟨u7, z7, hf⟩ := jm_rd_ok hf
      obtain ⟨rfl, rfl⟩ := jm_ret_ok hf
      exact jw_rz C hJ hS z7 (Nat.le_refl _) (Nat.le_refl _) dX7_isFollower_20
set_option maxHeartbeats 4000000 in
set_option maxRecDepth 100000 in
theorem cX7_isFollower_C (l : Launch) (G : jm_G) (h0 : Nat) (x1 : Option Nat) {S Sf : jm_S} {rv : Int32} (hf : fX7_isFollower h0 x1 S = some (rv, Sf)) : Met l yX7_isFollower wsX7_isFollower ({ frames := 0, cells := 0, slots := 0, locals := 0 } : Room) (jm_Pc G S [.ref h0, va_rf x1]) (jm_Q G (some (.int rv)) Sf) 0 0 (jm_A G) := by
  refine Met.ofW (cc := cX7_isFollower) (maxL := 2) (ret := (some .boolean)) (by decide) rfl ?_
  intro p e s m args below meth c s₁ B hml hv
  obtain ⟨rfl, hJ, hX⟩ := hv
  have C : jm_C G cX7_isFollower 2 RX7 wsX7_isFollower ((some .boolean)) p s m _ meth c := ⟨B.exec, B.bytes, hml, findClass_of_methodNamed B.named, atoms_spec (ws := wsX7_isFollower) B.pre, B.returns, B.notSynchronized, hX⟩
  obtain ⟨ls, he, hl⟩ := jm_entry m [.inr (some h0), .inr x1] (n := 2) (Nat.le_of_ble_eq_true rfl)
  have he : entryFrame m ([.ref h0, va_rf x1] : List Value).toArray 2 = F0 m 0 ls [] := he
  rw [he]
  exact kX7_isFollower C h0 x1 hf hJ va_S.rf (hl.sub [0, 1] rfl)
/-! CoordinationService.accept -/
def fX7_accept (h0 : Nat) (x1 : Int32) : jm_P Int32 := jm_rd (jm_o (some h0) 8) fun a1 => jm_bd (fX7_findServer a1 x1) fun v1 => (if v1 = none then jm_ret (-1) else jm_rd (jm_gR (some h0) 8 6) fun v3 => (if v3 = none then jm_ret (-2) else jm_rd (jm_o (some h0) 8) fun a5 => jm_bd (fX7_isFollower a5 v1) fun v5 => (if v5 = 0 then jm_ret (-2) else jm_rd (jm_gR v1 2 2) fun v7 => jm_rd (jm_o v7 0) fun a8 => jm_bd (fJx4a65c_size_8abf5 a8) fun v8 => jm_rd (jm_gR (some h0) 8 6) fun v9 => jm_rd (jm_gR v9 2 2) fun v10 => jm_rd (jm_o v10 0) fun a11 => jm_bd (fJx4a65c_size_8abf5 a11) fun v11 => (if v8 < v11 then jm_rd (jm_gR (some h0) 8 6) fun v13 => jm_rd (jm_gR v13 2 2) fun v14 => jm_rd (jm_o v14 0) fun a15 => jm_bd (fJx4a65c_get_915e3 a15 v8) fun v15 => jm_rd (jm_ck v15 4) fun _ => jm_rd (jm_gR v1 2 2) fun v17 => jm_rd (jm_o v17 0) fun a18 => jm_bd (fJx4a65c_add_9ea2d a18 v15) fun v18 => jm_rd (jm_gR (some h0) 8 6) fun v19 => jm_rd (jm_o (some h0) 8) fun a20 => jm_bd (fX7_commitWhatAQuorumHas a20 v19) fun _ => jm_rd (jm_gI v15 4 0) fun v21 => jm_ret v21 else jm_ret (-2)))))
theorem inX7_accept_X7 : ∀ w ∈ wsX70, w ∈ wsX7_accept := fun _ h => List.mem_cons_of_mem _ (List.mem_append_left _ (List.mem_append_left _ (List.mem_append_left _ (List.mem_append_left _ (List.mem_append_left _ (List.mem_append_left _ (List.mem_append_left _ (List.mem_append_left _ (List.mem_append_right _ h)))))))))
theorem inX7_accept_X1 : ∀ w ∈ wsX10, w ∈ wsX7_accept := fun _ h => List.mem_cons_of_mem _ (List.mem_append_left _ (List.mem_append_left _ (List.mem_append_left _ (List.mem_append_left _ (List.mem_append_left _ (List.mem_append_left _ (List.mem_append_left _ (List.mem_append_right _ h))))))))
theorem inX7_accept_X3 : ∀ w ∈ wsX30, w ∈ wsX7_accept := fun _ h => List.mem_cons_of_mem _ (List.mem_append_left _ (List.mem_append_left _ (List.mem_append_left _ (List.mem_append_left _ (List.mem_append_left _ (List.mem_append_left _ (List.mem_append_right _ h)))))))
theorem moX7_accept (h0 : Nat) (x1 : Int32) : jm_Mo (fX7_accept h0 x1) := by
  unfold fX7_accept
  exact jm_Mo_rd (fun _ => jm_Mo_bd (moX7_findServer _ _) (fun _ => jm_Mo_if (jm_Mo_ret _) (jm_Mo_rd (fun _ => jm_Mo_if (jm_Mo_ret _) (jm_Mo_rd (fun _ => jm_Mo_bd (moX7_isFollower _ _) (fun _ => jm_Mo_if (jm_Mo_ret _) (jm_Mo_rd (fun _ => jm_Mo_rd (fun _ => jm_Mo_bd (moJx4a65c_size_8abf5 _) (fun _ => jm_Mo_rd (fun _ => jm_Mo_rd (fun _ => jm_Mo_rd (fun _ => jm_Mo_bd (moJx4a65c_size_8abf5 _) (fun _ => jm_Mo_if (jm_Mo_rd (fun _ => jm_Mo_rd (fun _ => jm_Mo_rd (fun _ => jm_Mo_bd (moJx4a65c_get_915e3 _ _) (fun _ => jm_Mo_rd (fun _ => jm_Mo_rd (fun _ => jm_Mo_rd (fun _ => jm_Mo_bd (moJx4a65c_add_9ea2d _ _) (fun _ => jm_Mo_rd (fun _ => jm_Mo_rd (fun _ => jm_Mo_bd (moX7_commitWhatAQuorumHas _ _) (fun _ => jm_Mo_rd (fun _ => jm_Mo_ret _))))))))))))) (jm_Mo_ret _))))))))))))))))
set_option maxHeartbeats 4000000 in
set_option maxRecDepth 100000 in
theorem kX7_accept {rv : Int32} {Sf : jm_S} (C : jm_C G cX7_accept 5 RX7 wsX7_accept ((some .int)) p s m args meth c) {n0 m0 mc ms : Nat} (hr1 : Sf.2.1 ≤ n0 + mc) (hr2 : Sf.2.2.1 ≤ m0 + ms) : ∀ (h0 : Nat) (x1 : Int32) {S : jm_S} {H : Heap} {locs : List Loc} {ls : Array Slot} {cells slots : Nat}, fX7_accept h0 x1 S = some (rv, Sf) → jm_J G S H → va_S (jm_A G) s.heap H locs → jm_L ls 5 [(0, .inr (some h0)), (1, .inl x1)] → cells + n0 ≤ S.2.1 → slots + m0 ≤ S.2.2.1 → W p l e ({ frames := 8, cells := mc, slots := ms, locals := 205 } : Room) s m args below meth c H locs cells slots (MQ below (jm_Q G (some (.int rv)) Sf) args s mc ms (jm_A G)) (F0 m 0 ls []) := by
  intro h0 x1 S H locs ls cells slots hf hJ hS hl hc1 hc2
  unfold fX7_accept at hf
  refine jw_aload_n C dX7_accept_0 rfl (hl.at 0 rfl) ?_
  refine lv_iload_n C.1 C.2.1 dX7_accept_1 rfl (hl.at 1 rfl) ?_
  obtain ⟨a1, o1, hf⟩ := jm_rd_ok hf
  obtain ⟨v1, S1, h1, hf⟩ := jm_bd_ok hf
  have e1 := moX7_findServer a1 x1 _ _ _ h1
  have g1 := jm_mo hf (jm_Mo_if (jm_Mo_ret _) (jm_Mo_rd (fun _ => jm_Mo_if (jm_Mo_ret _) (jm_Mo_rd (fun _ => jm_Mo_bd (moX7_isFollower _ _) (fun _ => jm_Mo_if (jm_Mo_ret _) (jm_Mo_rd (fun _ => jm_Mo_rd (fun _ => jm_Mo_bd (moJx4a65c_size_8abf5 _) (fun _ => jm_Mo_rd (fun _ => jm_Mo_rd (fun _ => jm_Mo_rd (fun _ => jm_Mo_bd (moJx4a65c_size_8abf5 _) (fun _ => jm_Mo_if (jm_Mo_rd (fun _ => jm_Mo_rd (fun _ => jm_Mo_rd (fun _ => jm_Mo_bd (moJx4a65c_get_915e3 _ _) (fun _ => jm_Mo_rd (fun _ => jm_Mo_rd (fun _ => jm_Mo_rd (fun _ => jm_Mo_bd (moJx4a65c_add_9ea2d _ _) (fun _ => jm_Mo_rd (fun _ => jm_Mo_rd (fun _ => jm_Mo_bd (moX7_commitWhatAQuorumHas _ _) (fun _ => jm_Mo_rd (fun _ => jm_Mo_ret _))))))))))))) (jm_Mo_ret _)))))))))))))))
  refine jw_cV (q := (RX7, TX7, 12)) C hJ hS o1 rfl (cX7_findServer_C l G a1 x1 h1) (cwV 1 C.2.2.2.2.1 gX7_accept_X7_findServer rfl rfl rfl (by decide +kernel) ⟨Nat.le_of_ble_eq_true rfl, Nat.le_of_ble_eq_true rfl⟩) rfl hl.1 rfl (Nat.le_of_ble_eq_true rfl) dX7_accept_2 ⟨by show cells + 0 ≤ mc; omega, by show slots + 0 ≤ ms; omega⟩ (fun H locs hJ hS => ?_)
  replace hc1 : cells + 0 + n0 ≤ S1.2.1 := by omega
  replace hc2 : slots + 0 + m0 ≤ S1.2.2.1 := by omega
  generalize cells + 0 = cells at hc1 ⊢
  generalize slots + 0 = slots at hc2 ⊢
  refine jw_astore_n C dX7_accept_5 rfl hl (by decide) rfl (fun ls hl => ?_)
  refine jw_aload_n C dX7_accept_6 rfl (hl.at 0 rfl) ?_
  refine jw_ifnonnull (tgt := 12) C dX7_accept_7 (by decide) (fun hq2 => ?_) (fun hq2 => ?_)
  · replace hf := jm_iff hf hq2
    refine jw_aload_n C dX7_accept_12 rfl (hl.at 1 rfl) ?_
    obtain ⟨v3, h3, hf⟩ := jm_rd_ok hf
    refine jw_gR (Cn := RX7) (T := TX7) (N := 12) C hJ h3 rfl inX7_accept_X7 (by decide) (jm_w C 1 rfl) (fun _ h => h) dX7_accept_13 ?_
    refine jw_ifnull (tgt := 27) C dX7_accept_16 (by decide) (fun hq4 => ?_) (fun hq4 => ?_)
    · replace hf := jm_ift hf hq4
      refine lv_bipush (v := (-2)) C.1 C.2.1 dX7_accept_27 (by decide) ?_
      obtain ⟨rfl, rfl⟩ := jm_ret_ok hf
      exact jw_ri C hJ hS (by omega) (by omega) dX7_accept_29
    · replace hf := jm_iff hf hq4
      refine jw_aload_n C dX7_accept_19 rfl (hl.at 1 rfl) ?_
      refine jw_aload_n C dX7_accept_20 rfl (hl.at 0 rfl) ?_
      obtain ⟨a5, o5, hf⟩ := jm_rd_ok hf
      obtain ⟨v5, S5, h5, hf⟩ := jm_bd_ok hf
      have e5 := moX7_isFollower a5 v1 _ _ _ h5
      have g5 := jm_mo hf (jm_Mo_if (jm_Mo_ret _) (jm_Mo_rd (fun _ => jm_Mo_rd (fun _ => jm_Mo_bd (moJx4a65c_size_8abf5 _) (fun _ => jm_Mo_rd (fun _ => jm_Mo_rd (fun _ => jm_Mo_rd (fun _ => jm_Mo_bd (moJx4a65c_size_8abf5 _) (fun _ => jm_Mo_if (jm_Mo_rd (fun _ => jm_Mo_rd (fun _ => jm_Mo_rd (fun _ => jm_Mo_bd (moJx4a65c_get_915e3 _ _) (fun _ => jm_Mo_rd (fun _ => jm_Mo_rd (fun _ => jm_Mo_rd (fun _ => jm_Mo_bd (moJx4a65c_add_9ea2d _ _) (fun _ => jm_Mo_rd (fun _ => jm_Mo_rd (fun _ => jm_Mo_bd (moX7_commitWhatAQuorumHas _ _) (fun _ => jm_Mo_rd (fun _ => jm_Mo_ret _))))))))))))) (jm_Mo_ret _))))))))))
      refine jw_cV (q := (RX7, TX7, 12)) C hJ hS o5 rfl (cX7_isFollower_C l G a5 v1 h5) (cwV 1 C.2.2.2.2.1 gX7_accept_X7_isFollower rfl rfl rfl (by decide +kernel) ⟨Nat.le_of_ble_eq_true rfl, Nat.le_of_ble_eq_true rfl⟩) rfl hl.1 rfl (Nat.le_of_ble_eq_true rfl) dX7_accept_21 ⟨by show cells + 0 ≤ mc; omega, by show slots + 0 ≤ ms; omega⟩ (fun H locs hJ hS => ?_)
      replace hc1 : cells + 0 + n0 ≤ S5.2.1 := by omega
      replace hc2 : slots + 0 + m0 ≤ S5.2.2.1 := by omega
      generalize cells + 0 = cells at hc1 ⊢
      generalize slots + 0 = slots at hc2 ⊢
      refine lv_if_ne (tgt := 30) C.1 C.2.1 dX7_accept_24 (by decide) (fun hq6 => ?_) (fun hq6 => ?_)
      · replace hf := jm_iff hf hq6
        refine jw_aload_n C dX7_accept_30 rfl (hl.at 0 rfl) ?_
        obtain ⟨v7, h7, hf⟩ := jm_rd_ok hf
        refine jw_gR (Cn := RX1) (T := TX1) (N := 7) C hJ h7 rfl inX7_accept_X1 (by decide) (jm_w C 2 rfl) (fun _ h => h) dX7_accept_31 ?_
        obtain ⟨a8, o8, hf⟩ := jm_rd_ok hf
        obtain ⟨v8, S8, h8, hf⟩ := jm_bd_ok hf
        have e8 := moJx4a65c_size_8abf5 a8 _ _ _ h8
        have g8 := jm_mo hf (jm_Mo_rd (fun _ => jm_Mo_rd (fun _ => jm_Mo_rd (fun _ => jm_Mo_bd (moJx4a65c_size_8abf5 _) (fun _ => jm_Mo_if (jm_Mo_rd (fun _ => jm_Mo_rd (fun _ => jm_Mo_rd (fun _ => jm_Mo_bd (moJx4a65c_get_915e3 _ _) (fun _ => jm_Mo_rd (fun _ => jm_Mo_rd (fun _ => jm_Mo_rd (fun _ => jm_Mo_bd (moJx4a65c_add_9ea2d _ _) (fun _ => jm_Mo_rd (fun _ => jm_Mo_rd (fun _ => jm_Mo_bd (moX7_commitWhatAQuorumHas _ _) (fun _ => jm_Mo_rd (fun _ => jm_Mo_ret _))))))))))))) (jm_Mo_ret _))))))
        refine jw_cV (q := (RJx4a65c, TJx4a65c, 3)) C hJ hS o8 rfl (cJx4a65c_size_8abf5_C l G a8 h8) (cwV 0 C.2.2.2.2.1 gX7_accept_Jx4a65c_size_8abf5 rfl rfl rfl (by decide +kernel) ⟨Nat.le_of_ble_eq_true rfl, Nat.le_of_ble_eq_true rfl⟩) rfl hl.1 rfl (Nat.le_of_ble_eq_true rfl) dX7_accept_34 ⟨by show cells + 0 ≤ mc; omega, by show slots + 0 ≤ ms; omega⟩ (fun H locs hJ hS => ?_)
        replace hc1 : cells + 0 + n0 ≤ S8.2.1 := by omega
        replace hc2 : slots + 0 + m0 ≤ S8.2.2.1 := by omega
        generalize cells + 0 = cells at hc1 ⊢
        generalize slots + 0 = slots at hc2 ⊢
        refine jw_istore_n C dX7_accept_37 rfl hl (by decide) rfl (fun ls hl => ?_)
        refine lv_iload_n C.1 C.2.1 dX7_accept_38 rfl (hl.at 0 rfl) ?_
        refine jw_aload_n C dX7_accept_39 rfl (hl.at 2 rfl) ?_
        obtain ⟨v9, h9, hf⟩ := jm_rd_ok hf
        refine jw_gR (Cn := RX7) (T := TX7) (N := 12) C hJ h9 rfl inX7_accept_X7 (by decide) (jm_w C 1 rfl) (fun _ h => h) dX7_accept_40 ?_
        obtain ⟨v10, h10, hf⟩ := jm_rd_ok hf
        refine jw_gR (Cn := RX1) (T := TX1) (N := 7) C hJ h10 rfl inX7_accept_X1 (by decide) (jm_w C 2 rfl) (fun _ h => h) dX7_accept_43 ?_
        obtain ⟨a11, o11, hf⟩ := jm_rd_ok hf
        obtain ⟨v11, S11, h11, hf⟩ := jm_bd_ok hf
        have e11 := moJx4a65c_size_8abf5 a11 _ _ _ h11
        have g11 := jm_mo hf (jm_Mo_if (jm_Mo_rd (fun _ => jm_Mo_rd (fun _ => jm_Mo_rd (fun _ => jm_Mo_bd (moJx4a65c_get_915e3 _ _) (fun _ => jm_Mo_rd (fun _ => jm_Mo_rd (fun _ => jm_Mo_rd (fun _ => jm_Mo_bd (moJx4a65c_add_9ea2d _ _) (fun _ => jm_Mo_rd (fun _ => jm_Mo_rd (fun _ => jm_Mo_bd (moX7_commitWhatAQuorumHas _ _) (fun _ => jm_Mo_rd (fun _ => jm_Mo_ret _))))))))))))) (jm_Mo_ret _))
        refine jw_cV (q := (RJx4a65c, TJx4a65c, 3)) C hJ hS o11 rfl (cJx4a65c_size_8abf5_C l G a11 h11) (cwV 0 C.2.2.2.2.1 gX7_accept_Jx4a65c_size_8abf5 rfl rfl rfl (by decide +kernel) ⟨Nat.le_of_ble_eq_true rfl, Nat.le_of_ble_eq_true rfl⟩) rfl hl.1 rfl (Nat.le_of_ble_eq_true rfl) dX7_accept_46 ⟨by show cells + 0 ≤ mc; omega, by show slots + 0 ≤ ms; omega⟩ (fun H locs hJ hS => ?_)
        replace hc1 : cells + 0 + n0 ≤ S11.2.1 := by omega
        replace hc2 : slots + 0 + m0 ≤ S11.2.2.1 := by omega
        generalize cells + 0 = cells at hc1 ⊢
        generalize slots + 0 = slots at hc2 ⊢
        refine lv_icmp_lt (tgt := 55) C.1 C.2.1 dX7_accept_49 (by decide) (fun hq12 => ?_) (fun hq12 => ?_)
        · replace hf := jm_ift hf hq12
          refine jw_aload_n C dX7_accept_55 rfl (hl.at 2 rfl) ?_
          obtain ⟨v13, h13, hf⟩ := jm_rd_ok hf
          refine jw_gR (Cn := RX7) (T := TX7) (N := 12) C hJ h13 rfl inX7_accept_X7 (by decide) (jm_w C 1 rfl) (fun _ h => h) dX7_accept_56 ?_
          obtain ⟨v14, h14, hf⟩ := jm_rd_ok hf
          refine jw_gR (Cn := RX1) (T := TX1) (N := 7) C hJ h14 rfl inX7_accept_X1 (by decide) (jm_w C 2 rfl) (fun _ h => h) dX7_accept_59 ?_
          refine lv_iload_n C.1 C.2.1 dX7_accept_62 rfl (hl.at 0 rfl) ?_
          obtain ⟨a15, o15, hf⟩ := jm_rd_ok hf
          obtain ⟨v15, S15, h15, hf⟩ := jm_bd_ok hf
          have e15 := moJx4a65c_get_915e3 a15 v8 _ _ _ h15
          have g15 := jm_mo hf (jm_Mo_rd (fun _ => jm_Mo_rd (fun _ => jm_Mo_rd (fun _ => jm_Mo_bd (moJx4a65c_add_9ea2d _ _) (fun _ => jm_Mo_rd (fun _ => jm_Mo_rd (fun _ => jm_Mo_bd (moX7_commitWhatAQuorumHas _ _) (fun _ => jm_Mo_rd (fun _ => jm_Mo_ret _)))))))))
          refine jw_cV (q := (RJx4a65c, TJx4a65c, 3)) C hJ hS o15 rfl (cJx4a65c_get_915e3_C l G a15 v8 h15) (cwV 1 C.2.2.2.2.1 gX7_accept_Jx4a65c_get_915e3 rfl rfl rfl (by decide +kernel) ⟨Nat.le_of_ble_eq_true rfl, Nat.le_of_ble_eq_true rfl⟩) rfl hl.1 rfl (Nat.le_of_ble_eq_true rfl) dX7_accept_63 ⟨by show cells + 0 ≤ mc; omega, by show slots + 0 ≤ ms; omega⟩ (fun H locs hJ hS => ?_)
          replace hc1 : cells + 0 + n0 ≤ S15.2.1 := by omega
          replace hc2 : slots + 0 + m0 ≤ S15.2.2.1 := by omega
          generalize cells + 0 = cells at hc1 ⊢
          generalize slots + 0 = slots at hc2 ⊢
          obtain ⟨u16, h16, hf⟩ := jm_rd_ok hf
          refine jw_ck (q := (RX3, TX3, 5)) C hJ h16 rfl (jm_w C 3 rfl) dX7_accept_66 ?_
          refine jw_astore C dX7_accept_69 hl (by decide) rfl (fun ls hl => ?_)
          refine jw_aload_n C dX7_accept_71 rfl (hl.at 2 rfl) ?_
          obtain ⟨v17, h17, hf⟩ := jm_rd_ok hf
          refine jw_gR (Cn := RX1) (T := TX1) (N := 7) C hJ h17 rfl inX7_accept_X1 (by decide) (jm_w C 2 rfl) (fun _ h => h) dX7_accept_72 ?_
          refine jw_aload C dX7_accept_75 (hl.at 0 rfl) ?_
          obtain ⟨a18, o18, hf⟩ := jm_rd_ok hf
          obtain ⟨v18, S18, h18, hf⟩ := jm_bd_ok hf
          have e18 := moJx4a65c_add_9ea2d a18 v15 _ _ _ h18
          have g18 := jm_mo hf (jm_Mo_rd (fun _ => jm_Mo_rd (fun _ => jm_Mo_bd (moX7_commitWhatAQuorumHas _ _) (fun _ => jm_Mo_rd (fun _ => jm_Mo_ret _)))))
          refine jw_cV (q := (RJx4a65c, TJx4a65c, 3)) C hJ hS o18 rfl (cJx4a65c_add_9ea2d_C l G a18 v15 h18 (S18.2.1 - S15.2.1) (S18.2.2.1 - S15.2.2.1) (by omega) (by omega)) (cwV 1 C.2.2.2.2.1 gX7_accept_Jx4a65c_add_9ea2d rfl rfl rfl (by decide +kernel) ⟨Nat.le_of_ble_eq_true rfl, Nat.le_of_ble_eq_true rfl⟩) rfl hl.1 rfl (Nat.le_of_ble_eq_true rfl) dX7_accept_77 ⟨by show cells + _ ≤ mc; omega, by show slots + _ ≤ ms; omega⟩ (fun H locs hJ hS => ?_)
          replace hc1 : cells + (S18.2.1 - S15.2.1) + n0 ≤ S18.2.1 := by omega
          replace hc2 : slots + (S18.2.2.1 - S15.2.2.1) + m0 ≤ S18.2.2.1 := by omega
          generalize cells + (S18.2.1 - S15.2.1) = cells at hc1 ⊢
          generalize slots + (S18.2.2.1 - S15.2.2.1) = slots at hc2 ⊢
          refine lv_pop C.1 C.2.1 dX7_accept_80 rfl ?_
          refine jw_aload_n C dX7_accept_81 rfl (hl.at 3 rfl) ?_
          refine jw_aload_n C dX7_accept_82 rfl (hl.at 3 rfl) ?_
          obtain ⟨v19, h19, hf⟩ := jm_rd_ok hf
          refine jw_gR (Cn := RX7) (T := TX7) (N := 12) C hJ h19 rfl inX7_accept_X7 (by decide) (jm_w C 1 rfl) (fun _ h => h) dX7_accept_83 ?_
          obtain ⟨a20, o20, hf⟩ := jm_rd_ok hf
          obtain ⟨v20, S20, h20, hf⟩ := jm_bd_ok hf
          have e20 := moX7_commitWhatAQuorumHas a20 v19 _ _ _ h20
          have g20 := jm_mo hf (jm_Mo_rd (fun _ => jm_Mo_ret _))
          refine jw_cV (q := (RX7, TX7, 12)) C hJ hS o20 rfl (cX7_commitWhatAQuorumHas_C l G a20 v19 h20) (cwV 1 C.2.2.2.2.1 gX7_accept_X7_commitWhatAQuorumHas rfl rfl rfl (by decide +kernel) ⟨Nat.le_of_ble_eq_true rfl, Nat.le_of_ble_eq_true rfl⟩) rfl hl.1 rfl (Nat.le_of_ble_eq_true rfl) dX7_accept_86 ⟨by show cells + 0 ≤ mc; omega, by show slots + 0 ≤ ms; omega⟩ (fun H locs hJ hS => ?_)
          replace hc1 : cells + 0 + n0 ≤ S20.2.1 := by omega
          replace hc2 : slots + 0 + m0 ≤ S20.2.2.1 := by omega
          generalize cells + 0 = cells at hc1 ⊢
          generalize slots + 0 = slots at hc2 ⊢
          refine jw_aload C dX7_accept_89 (hl.at 0 rfl) ?_
          obtain ⟨v21, h21, hf⟩ := jm_rd_ok hf
          refine jw_gI (Cn := RX3) (T := TX3) (N := 5) C hJ h21 rfl inX7_accept_X3 (by decide) (jm_w C 4 rfl) (fun _ h => h) dX7_accept_91 ?_
          obtain ⟨rfl, rfl⟩ := jm_ret_ok hf
          exact jw_ri C hJ hS (by omega) (by omega) dX7_accept_94
        · replace hf := jm_iff hf hq12
          refine lv_bipush (v := (-2)) C.1 C.2.1 dX7_accept_52 (by decide) ?_
          obtain ⟨rfl, rfl⟩ := jm_ret_ok hf
          exact jw_ri C hJ hS (by omega) (by omega) dX7_accept_54
      · replace hf := jm_ift hf hq6
        refine lv_bipush (v := (-2)) C.1 C.2.1 dX7_accept_27 (by decide) ?_
        obtain ⟨rfl, rfl⟩ := jm_ret_ok hf
        exact jw_ri C hJ hS (by omega) (by omega) dX7_accept_29
  · replace hf := jm_ift hf hq2
    refine lv_iconst (v := (-1)) C.1 C.2.1 dX7_accept_10 (by decide) ?_
    obtain ⟨rfl, rfl⟩ := jm_ret_ok hf
    exact jw_ri C hJ hS (by omega) (by omega) dX7_accept_11
set_option maxHeartbeats 4000000 in
set_option maxRecDepth 100000 in
theorem cX7_accept_C (l : Launch) (G : jm_G) (h0 : Nat) (x1 : Int32) {S Sf : jm_S} {rv : Int32} (hf : fX7_accept h0 x1 S = some (rv, Sf)) (mc ms : Nat) (hr1 : Sf.2.1 ≤ S.2.1 + mc) (hr2 : Sf.2.2.1 ≤ S.2.2.1 + ms) : Met l yX7_accept wsX7_accept ({ frames := 8, cells := mc, slots := ms, locals := 205 } : Room) (jm_Pc G S [.ref h0, .int x1]) (jm_Q G (some (.int rv)) Sf) mc ms (jm_A G) := by
  refine Met.ofW (cc := cX7_accept) (maxL := 5) (ret := (some .int)) (by decide) rfl ?_
  intro p e s m args below meth c s₁ B hml hv
  obtain ⟨rfl, hJ, hX⟩ := hv
  have C : jm_C G cX7_accept 5 RX7 wsX7_accept ((some .int)) p s m _ meth c := ⟨B.exec, B.bytes, hml, findClass_of_methodNamed B.named, atoms_spec (ws := wsX7_accept) B.pre, B.returns, B.notSynchronized, hX⟩
  obtain ⟨ls, he, hl⟩ := jm_entry m [.inr (some h0), .inl x1] (n := 5) (Nat.le_of_ble_eq_true rfl)
  have he : entryFrame m ([.ref h0, .int x1] : List Value).toArray 5 = F0 m 0 ls [] := he
  rw [he]
  exact kX7_accept C (n0 := S.2.1) (m0 := S.2.2.1) hr1 hr2 h0 x1 hf hJ va_S.rf (hl.sub [0, 1] rfl) (by omega) (by omega)
/-! CoordinationService.heartbeat -/
def fX7_heartbeat (h0 : Nat) (x1 : Int32) : jm_P Int32 := jm_rd (jm_o (some h0) 8) fun a1 => jm_bd (fX7_findServer a1 x1) fun v1 => (if v1 = none then jm_ret (-1) else jm_rd (jm_o (some h0) 8) fun a3 => jm_bd (fX7_isFollower a3 v1) fun v3 => (if v3 = 0 then jm_ret (-2) else jm_rd (jm_gI (some h0) 8 9) fun v5 => jm_rd (jm_gR (some h0) 8 2) fun v6 => jm_rd (jm_o v1 2) fun a7 => jm_bd (fX1_applyUpTo a7 v5 v6) fun v7 => jm_ret v7))
theorem inX7_heartbeat_X7 : ∀ w ∈ wsX70, w ∈ wsX7_heartbeat := fun _ h => List.mem_cons_of_mem _ (List.mem_append_left _ (List.mem_append_left _ (List.mem_append_left _ (List.mem_append_left _ (List.mem_append_left _ (List.mem_append_left _ (List.mem_append_left _ (List.mem_append_left _ (List.mem_append_right _ h)))))))))
theorem moX7_heartbeat (h0 : Nat) (x1 : Int32) : jm_Mo (fX7_heartbeat h0 x1) := by
  unfold fX7_heartbeat
  exact jm_Mo_rd (fun _ => jm_Mo_bd (moX7_findServer _ _) (fun _ => jm_Mo_if (jm_Mo_ret _) (jm_Mo_rd (fun _ => jm_Mo_bd (moX7_isFollower _ _) (fun _ => jm_Mo_if (jm_Mo_ret _) (jm_Mo_rd (fun _ => jm_Mo_rd (fun _ => jm_Mo_rd (fun _ => jm_Mo_bd (moX1_applyUpTo _ _ _) (fun _ => jm_Mo_ret _))))))))))
set_option maxHeartbeats 4000000 in
set_option maxRecDepth 100000 in
theorem kX7_heartbeat {rv : Int32} {Sf : jm_S} (C : jm_C G cX7_heartbeat 3 RX7 wsX7_heartbeat ((some .int)) p s m args meth c) : ∀ (h0 : Nat) (x1 : Int32) {S : jm_S} {H : Heap} {locs : List Loc} {ls : Array Slot}, fX7_heartbeat h0 x1 S = some (rv, Sf) → jm_J G S H → va_S (jm_A G) s.heap H locs → jm_L ls 3 [(0, .inr (some h0)), (1, .inl x1)] → W p l e ({ frames := 7, cells := 0, slots := 0, locals := 183 } : Room) s m args below meth c H locs 0 0 (MQ below (jm_Q G (some (.int rv)) Sf) args s 0 0 (jm_A G)) (F0 m 0 ls []) := by
  intro h0 x1 S H locs ls hf hJ hS hl
  unfold fX7_heartbeat at hf
  refine jw_aload_n C dX7_heartbeat_0 rfl (hl.at 0 rfl) ?_
  refine lv_iload_n C.1 C.2.1 dX7_heartbeat_1 rfl (hl.at 1 rfl) ?_
  obtain ⟨a1, o1, hf⟩ := jm_rd_ok hf
  obtain ⟨v1, S1, h1, hf⟩ := jm_bd_ok hf
  refine jw_cV (q := (RX7, TX7, 12)) C hJ hS o1 rfl (cX7_findServer_C l G a1 x1 h1) (cwV 1 C.2.2.2.2.1 gX7_heartbeat_X7_findServer rfl rfl rfl (by decide +kernel) ⟨Nat.le_of_ble_eq_true rfl, Nat.le_of_ble_eq_true rfl⟩) rfl hl.1 rfl (Nat.le_of_ble_eq_true rfl) dX7_heartbeat_2 ⟨Nat.le_refl _, Nat.le_refl _⟩ (fun H locs hJ hS => ?_)
  refine jw_astore_n C dX7_heartbeat_5 rfl hl (by decide) rfl (fun ls hl => ?_)
  refine jw_aload_n C dX7_heartbeat_6 rfl (hl.at 0 rfl) ?_
  refine jw_ifnonnull (tgt := 12) C dX7_heartbeat_7 (by decide) (fun hq2 => ?_) (fun hq2 => ?_)
  · replace hf := jm_iff hf hq2
    refine jw_aload_n C dX7_heartbeat_12 rfl (hl.at 1 rfl) ?_
    refine jw_aload_n C dX7_heartbeat_13 rfl (hl.at 0 rfl) ?_
    obtain ⟨a3, o3, hf⟩ := jm_rd_ok hf
    obtain ⟨v3, S3, h3, hf⟩ := jm_bd_ok hf
    refine jw_cV (q := (RX7, TX7, 12)) C hJ hS o3 rfl (cX7_isFollower_C l G a3 v1 h3) (cwV 1 C.2.2.2.2.1 gX7_heartbeat_X7_isFollower rfl rfl rfl (by decide +kernel) ⟨Nat.le_of_ble_eq_true rfl, Nat.le_of_ble_eq_true rfl⟩) rfl hl.1 rfl (Nat.le_of_ble_eq_true rfl) dX7_heartbeat_14 ⟨Nat.le_refl _, Nat.le_refl _⟩ (fun H locs hJ hS => ?_)
    refine lv_if_ne (tgt := 23) C.1 C.2.1 dX7_heartbeat_17 (by decide) (fun hq4 => ?_) (fun hq4 => ?_)
    · replace hf := jm_iff hf hq4
      refine jw_aload_n C dX7_heartbeat_23 rfl (hl.at 0 rfl) ?_
      refine jw_aload_n C dX7_heartbeat_24 rfl (hl.at 1 rfl) ?_
      obtain ⟨v5, h5, hf⟩ := jm_rd_ok hf
      refine jw_gI (Cn := RX7) (T := TX7) (N := 12) C hJ h5 rfl inX7_heartbeat_X7 (by decide) (jm_w C 1 rfl) (fun _ h => h) dX7_heartbeat_25 ?_
      refine jw_aload_n C dX7_heartbeat_28 rfl (hl.at 1 rfl) ?_
      obtain ⟨v6, h6, hf⟩ := jm_rd_ok hf
      refine jw_gR (Cn := RX7) (T := TX7) (N := 12) C hJ h6 rfl inX7_heartbeat_X7 (by decide) (jm_w C 2 rfl) (fun _ h => h) dX7_heartbeat_29 ?_
      obtain ⟨a7, o7, hf⟩ := jm_rd_ok hf
      obtain ⟨v7, S7, h7, hf⟩ := jm_bd_ok hf
      refine jw_cV (q := (RX1, TX1, 7)) C hJ hS o7 rfl (cX1_applyUpTo_C l G a7 v5 v6 h7) (cwV 2 C.2.2.2.2.1 gX7_heartbeat_X1_applyUpTo rfl rfl rfl (by decide +kernel) ⟨Nat.le_of_ble_eq_true rfl, Nat.le_of_ble_eq_true rfl⟩) rfl hl.1 rfl (Nat.le_of_ble_eq_true rfl) dX7_heartbeat_32 ⟨Nat.le_refl _, Nat.le_refl _⟩ (fun H locs hJ hS => ?_)
      obtain ⟨rfl, rfl⟩ := jm_ret_ok hf
      exact jw_ri C hJ hS (Nat.le_refl _) (Nat.le_refl _) dX7_heartbeat_35
    · replace hf := jm_ift hf hq4
      refine lv_bipush (v := (-2)) C.1 C.2.1 dX7_heartbeat_20 (by decide) ?_
      obtain ⟨rfl, rfl⟩ := jm_ret_ok hf
      exact jw_ri C hJ hS (Nat.le_refl _) (Nat.le_refl _) dX7_heartbeat_22
  · replace hf := jm_ift hf hq2
    refine lv_iconst (v := (-1)) C.1 C.2.1 dX7_heartbeat_10 (by decide) ?_
    obtain ⟨rfl, rfl⟩ := jm_ret_ok hf
    exact jw_ri C hJ hS (Nat.le_refl _) (Nat.le_refl _) dX7_heartbeat_11
set_option maxHeartbeats 4000000 in
set_option maxRecDepth 100000 in
theorem cX7_heartbeat_C (l : Launch) (G : jm_G) (h0 : Nat) (x1 : Int32) {S Sf : jm_S} {rv : Int32} (hf : fX7_heartbeat h0 x1 S = some (rv, Sf)) : Met l yX7_heartbeat wsX7_heartbeat ({ frames := 7, cells := 0, slots := 0, locals := 183 } : Room) (jm_Pc G S [.ref h0, .int x1]) (jm_Q G (some (.int rv)) Sf) 0 0 (jm_A G) := by
  refine Met.ofW (cc := cX7_heartbeat) (maxL := 3) (ret := (some .int)) (by decide) rfl ?_
  intro p e s m args below meth c s₁ B hml hv
  obtain ⟨rfl, hJ, hX⟩ := hv
  have C : jm_C G cX7_heartbeat 3 RX7 wsX7_heartbeat ((some .int)) p s m _ meth c := ⟨B.exec, B.bytes, hml, findClass_of_methodNamed B.named, atoms_spec (ws := wsX7_heartbeat) B.pre, B.returns, B.notSynchronized, hX⟩
  obtain ⟨ls, he, hl⟩ := jm_entry m [.inr (some h0), .inl x1] (n := 3) (Nat.le_of_ble_eq_true rfl)
  have he : entryFrame m ([.ref h0, .int x1] : List Value).toArray 3 = F0 m 0 ls [] := he
  rw [he]
  exact kX7_heartbeat C h0 x1 hf hJ va_S.rf (hl.sub [0, 1] rfl)
/-! CoordinationService.leader -/
def fX7_leader (h0 : Nat) : jm_P Int32 := jm_rd (jm_gR (some h0) 8 6) fun v1 => (if v1 = none then jm_ret (-3) else jm_rd (jm_gR (some h0) 8 6) fun v3 => jm_rd (jm_gI v3 2 0) fun v4 => jm_ret v4)
theorem inX7_leader_X7 : ∀ w ∈ wsX70, w ∈ wsX7_leader := fun _ h => List.mem_cons_of_mem _ (List.mem_append_left _ (List.mem_append_right _ h))
theorem inX7_leader_X1 : ∀ w ∈ wsX10, w ∈ wsX7_leader := fun _ h => List.mem_cons_of_mem _ (List.mem_append_right _ h)
theorem moX7_leader (h0 : Nat) : jm_Mo (fX7_leader h0) := by
  unfold fX7_leader
  exact jm_Mo_rd (fun _ => jm_Mo_if (jm_Mo_ret _) (jm_Mo_rd (fun _ => jm_Mo_rd (fun _ => jm_Mo_ret _))))
set_option maxHeartbeats 4000000 in
set_option maxRecDepth 100000 in
theorem kX7_leader {rv : Int32} {Sf : jm_S} (C : jm_C G cX7_leader 1 RX7 wsX7_leader ((some .int)) p s m args meth c) : ∀ (h0 : Nat) {S : jm_S} {H : Heap} {locs : List Loc} {ls : Array Slot}, fX7_leader h0 S = some (rv, Sf) → jm_J G S H → va_S (jm_A G) s.heap H locs → jm_L ls 1 [(0, .inr (some h0))] → W p l e ({ frames := 0, cells := 0, slots := 0, locals := 0 } : Room) s m args below meth c H locs 0 0 (MQ below (jm_Q G (some (.int rv)) Sf) args s 0 0 (jm_A G)) (F0 m 0 ls []) := by
  intro h0 S H locs ls hf hJ hS hl
  unfold fX7_leader at hf
  refine jw_aload_n C dX7_leader_0 rfl (hl.at 0 rfl) ?_
  obtain ⟨v1, h1, hf⟩ := jm_rd_ok hf
  refine jw_gR (Cn := RX7) (T := TX7) (N := 12) C hJ h1 rfl inX7_leader_X7 (by decide) (jm_w C 1 rfl) (fun _ h => h) dX7_leader_1 ?_
  refine jw_ifnonnull (tgt := 12) C dX7_leader_4 (by decide) (fun hq2 => ?_) (fun hq2 => ?_)
  · replace hf := jm_iff hf hq2
    refine jw_aload_n C dX7_leader_12 rfl (hl.at 0 rfl) ?_
    obtain ⟨v3, h3, hf⟩ := jm_rd_ok hf
    refine jw_gR (Cn := RX7) (T := TX7) (N := 12) C hJ h3 rfl inX7_leader_X7 (by decide) (jm_w C 1 rfl) (fun _ h => h) dX7_leader_13 ?_
    obtain ⟨v4, h4, hf⟩ := jm_rd_ok hf
    refine jw_gI (Cn := RX1) (T := TX1) (N := 7) C hJ h4 rfl inX7_leader_X1 (by decide) (jm_w C 2 rfl) (fun _ h => h) dX7_leader_16 ?_
    obtain ⟨rfl, rfl⟩ := jm_ret_ok hf
    exact jw_ri C hJ hS (Nat.le_refl _) (Nat.le_refl _) dX7_leader_19
  · replace hf := jm_ift hf hq2
    refine lv_bipush (v := (-3)) C.1 C.2.1 dX7_leader_7 (by decide) ?_
    refine lv_goto (tgt := 19) C.1 C.2.1 dX7_leader_9 (by decide) ?_
    obtain ⟨rfl, rfl⟩ := jm_ret_ok hf
    exact jw_ri C hJ hS (Nat.le_refl _) (Nat.le_refl _) dX7_leader_19
set_option maxHeartbeats 4000000 in
set_option maxRecDepth 100000 in
theorem cX7_leader_C (l : Launch) (G : jm_G) (h0 : Nat) {S Sf : jm_S} {rv : Int32} (hf : fX7_leader h0 S = some (rv, Sf)) : Met l yX7_leader wsX7_leader ({ frames := 0, cells := 0, slots := 0, locals := 0 } : Room) (jm_Pc G S [.ref h0]) (jm_Q G (some (.int rv)) Sf) 0 0 (jm_A G) := by
  refine Met.ofW (cc := cX7_leader) (maxL := 1) (ret := (some .int)) (by decide) rfl ?_
  intro p e s m args below meth c s₁ B hml hv
  obtain ⟨rfl, hJ, hX⟩ := hv
  have C : jm_C G cX7_leader 1 RX7 wsX7_leader ((some .int)) p s m _ meth c := ⟨B.exec, B.bytes, hml, findClass_of_methodNamed B.named, atoms_spec (ws := wsX7_leader) B.pre, B.returns, B.notSynchronized, hX⟩
  obtain ⟨ls, he, hl⟩ := jm_entry m [.inr (some h0)] (n := 1) (Nat.le_of_ble_eq_true rfl)
  have he : entryFrame m ([.ref h0] : List Value).toArray 1 = F0 m 0 ls [] := he
  rw [he]
  exact kX7_leader C h0 hf hJ va_S.rf (hl.sub [0] rfl)
/-! CoordinationService.lastIdentifier -/
def fX7_lastIdentifier (h0 : Nat) (x1 : Int32) : jm_P Int32 := jm_rd (jm_o (some h0) 8) fun a1 => jm_bd (fX7_findServer a1 x1) fun v1 => (if v1 = none then jm_ret (-1) else jm_rd (jm_o v1 2) fun a3 => jm_bd (fX1_newestIdentifier a3) fun v3 => jm_ret v3)
theorem moX7_lastIdentifier (h0 : Nat) (x1 : Int32) : jm_Mo (fX7_lastIdentifier h0 x1) := by
  unfold fX7_lastIdentifier
  exact jm_Mo_rd (fun _ => jm_Mo_bd (moX7_findServer _ _) (fun _ => jm_Mo_if (jm_Mo_ret _) (jm_Mo_rd (fun _ => jm_Mo_bd (moX1_newestIdentifier _) (fun _ => jm_Mo_ret _)))))
set_option maxHeartbeats 4000000 in
set_option maxRecDepth 100000 in
theorem kX7_lastIdentifier {rv : Int32} {Sf : jm_S} (C : jm_C G cX7_lastIdentifier 3 RX7 wsX7_lastIdentifier ((some .int)) p s m args meth c) : ∀ (h0 : Nat) (x1 : Int32) {S : jm_S} {H : Heap} {locs : List Loc} {ls : Array Slot}, fX7_lastIdentifier h0 x1 S = some (rv, Sf) → jm_J G S H → va_S (jm_A G) s.heap H locs → jm_L ls 3 [(0, .inr (some h0)), (1, .inl x1)] → W p l e ({ frames := 4, cells := 0, slots := 0, locals := 84 } : Room) s m args below meth c H locs 0 0 (MQ below (jm_Q G (some (.int rv)) Sf) args s 0 0 (jm_A G)) (F0 m 0 ls []) := by
  intro h0 x1 S H locs ls hf hJ hS hl
  unfold fX7_lastIdentifier at hf
  refine jw_aload_n C dX7_lastIdentifier_0 rfl (hl.at 0 rfl) ?_
  refine lv_iload_n C.1 C.2.1 dX7_lastIdentifier_1 rfl (hl.at 1 rfl) ?_
  obtain ⟨a1, o1, hf⟩ := jm_rd_ok hf
  obtain ⟨v1, S1, h1, hf⟩ := jm_bd_ok hf
  refine jw_cV (q := (RX7, TX7, 12)) C hJ hS o1 rfl (cX7_findServer_C l G a1 x1 h1) (cwV 1 C.2.2.2.2.1 gX7_lastIdentifier_X7_findServer rfl rfl rfl (by decide +kernel) ⟨Nat.le_of_ble_eq_true rfl, Nat.le_of_ble_eq_true rfl⟩) rfl hl.1 rfl (Nat.le_of_ble_eq_true rfl) dX7_lastIdentifier_2 ⟨Nat.le_refl _, Nat.le_refl _⟩ (fun H locs hJ hS => ?_)
  refine jw_astore_n C dX7_lastIdentifier_5 rfl hl (by decide) rfl (fun ls hl => ?_)
  refine jw_aload_n C dX7_lastIdentifier_6 rfl (hl.at 0 rfl) ?_
  refine jw_ifnonnull (tgt := 14) C dX7_lastIdentifier_7 (by decide) (fun hq2 => ?_) (fun hq2 => ?_)
  · replace hf := jm_iff hf hq2
    refine jw_aload_n C dX7_lastIdentifier_14 rfl (hl.at 0 rfl) ?_
    obtain ⟨a3, o3, hf⟩ := jm_rd_ok hf
    obtain ⟨v3, S3, h3, hf⟩ := jm_bd_ok hf
    refine jw_cV (q := (RX1, TX1, 7)) C hJ hS o3 rfl (cX1_newestIdentifier_C l G a3 h3) (cwV 0 C.2.2.2.2.1 gX7_lastIdentifier_X1_newestIdentifier rfl rfl rfl (by decide +kernel) ⟨Nat.le_of_ble_eq_true rfl, Nat.le_of_ble_eq_true rfl⟩) rfl hl.1 rfl (Nat.le_of_ble_eq_true rfl) dX7_lastIdentifier_15 ⟨Nat.le_refl _, Nat.le_refl _⟩ (fun H locs hJ hS => ?_)
    obtain ⟨rfl, rfl⟩ := jm_ret_ok hf
    exact jw_ri C hJ hS (Nat.le_refl _) (Nat.le_refl _) dX7_lastIdentifier_18
  · replace hf := jm_ift hf hq2
    refine lv_iconst (v := (-1)) C.1 C.2.1 dX7_lastIdentifier_10 (by decide) ?_
    refine lv_goto (tgt := 18) C.1 C.2.1 dX7_lastIdentifier_11 (by decide) ?_
    obtain ⟨rfl, rfl⟩ := jm_ret_ok hf
    exact jw_ri C hJ hS (Nat.le_refl _) (Nat.le_refl _) dX7_lastIdentifier_18
set_option maxHeartbeats 4000000 in
set_option maxRecDepth 100000 in
theorem cX7_lastIdentifier_C (l : Launch) (G : jm_G) (h0 : Nat) (x1 : Int32) {S Sf : jm_S} {rv : Int32} (hf : fX7_lastIdentifier h0 x1 S = some (rv, Sf)) : Met l yX7_lastIdentifier wsX7_lastIdentifier ({ frames := 4, cells := 0, slots := 0, locals := 84 } : Room) (jm_Pc G S [.ref h0, .int x1]) (jm_Q G (some (.int rv)) Sf) 0 0 (jm_A G) := by
  refine Met.ofW (cc := cX7_lastIdentifier) (maxL := 3) (ret := (some .int)) (by decide) rfl ?_
  intro p e s m args below meth c s₁ B hml hv
  obtain ⟨rfl, hJ, hX⟩ := hv
  have C : jm_C G cX7_lastIdentifier 3 RX7 wsX7_lastIdentifier ((some .int)) p s m _ meth c := ⟨B.exec, B.bytes, hml, findClass_of_methodNamed B.named, atoms_spec (ws := wsX7_lastIdentifier) B.pre, B.returns, B.notSynchronized, hX⟩
  obtain ⟨ls, he, hl⟩ := jm_entry m [.inr (some h0), .inl x1] (n := 3) (Nat.le_of_ble_eq_true rfl)
  have he : entryFrame m ([.ref h0, .int x1] : List Value).toArray 3 = F0 m 0 ls [] := he
  rw [he]
  exact kX7_lastIdentifier C h0 x1 hf hJ va_S.rf (hl.sub [0, 1] rfl)
/-! CoordinationService.appliedCount -/
def fX7_appliedCount (h0 : Nat) (x1 : Int32) : jm_P Int32 := jm_rd (jm_o (some h0) 8) fun a1 => jm_bd (fX7_findServer a1 x1) fun v1 => (if v1 = none then jm_ret (-1) else jm_rd (jm_gI v1 2 6) fun v3 => jm_ret v3)
theorem inX7_appliedCount_X1 : ∀ w ∈ wsX10, w ∈ wsX7_appliedCount := fun _ h => List.mem_cons_of_mem _ (List.mem_append_left _ (List.mem_append_right _ h))
theorem moX7_appliedCount (h0 : Nat) (x1 : Int32) : jm_Mo (fX7_appliedCount h0 x1) := by
  unfold fX7_appliedCount
  exact jm_Mo_rd (fun _ => jm_Mo_bd (moX7_findServer _ _) (fun _ => jm_Mo_if (jm_Mo_ret _) (jm_Mo_rd (fun _ => jm_Mo_ret _))))
set_option maxHeartbeats 4000000 in
set_option maxRecDepth 100000 in
theorem kX7_appliedCount {rv : Int32} {Sf : jm_S} (C : jm_C G cX7_appliedCount 3 RX7 wsX7_appliedCount ((some .int)) p s m args meth c) : ∀ (h0 : Nat) (x1 : Int32) {S : jm_S} {H : Heap} {locs : List Loc} {ls : Array Slot}, fX7_appliedCount h0 x1 S = some (rv, Sf) → jm_J G S H → va_S (jm_A G) s.heap H locs → jm_L ls 3 [(0, .inr (some h0)), (1, .inl x1)] → W p l e ({ frames := 1, cells := 0, slots := 0, locals := 21 } : Room) s m args below meth c H locs 0 0 (MQ below (jm_Q G (some (.int rv)) Sf) args s 0 0 (jm_A G)) (F0 m 0 ls []) := by
  intro h0 x1 S H locs ls hf hJ hS hl
  unfold fX7_appliedCount at hf
  refine jw_aload_n C dX7_appliedCount_0 rfl (hl.at 0 rfl) ?_
  refine lv_iload_n C.1 C.2.1 dX7_appliedCount_1 rfl (hl.at 1 rfl) ?_
  obtain ⟨a1, o1, hf⟩ := jm_rd_ok hf
  obtain ⟨v1, S1, h1, hf⟩ := jm_bd_ok hf
  refine jw_cV (q := (RX7, TX7, 12)) C hJ hS o1 rfl (cX7_findServer_C l G a1 x1 h1) (cwV 1 C.2.2.2.2.1 gX7_appliedCount_X7_findServer rfl rfl rfl (by decide +kernel) ⟨Nat.le_of_ble_eq_true rfl, Nat.le_of_ble_eq_true rfl⟩) rfl hl.1 rfl (Nat.le_of_ble_eq_true rfl) dX7_appliedCount_2 ⟨Nat.le_refl _, Nat.le_refl _⟩ (fun H locs hJ hS => ?_)
  refine jw_astore_n C dX7_appliedCount_5 rfl hl (by decide) rfl (fun ls hl => ?_)
  refine jw_aload_n C dX7_appliedCount_6 rfl (hl.at 0 rfl) ?_
  refine jw_ifnonnull (tgt := 14) C dX7_appliedCount_7 (by decide) (fun hq2 => ?_) (fun hq2 => ?_)
  · replace hf := jm_iff hf hq2
    refine jw_aload_n C dX7_appliedCount_14 rfl (hl.at 0 rfl) ?_
    obtain ⟨v3, h3, hf⟩ := jm_rd_ok hf
    refine jw_gI (Cn := RX1) (T := TX1) (N := 7) C hJ h3 rfl inX7_appliedCount_X1 (by decide) (jm_w C 1 rfl) (fun _ h => h) dX7_appliedCount_15 ?_
    obtain ⟨rfl, rfl⟩ := jm_ret_ok hf
    exact jw_ri C hJ hS (Nat.le_refl _) (Nat.le_refl _) dX7_appliedCount_18
  · replace hf := jm_ift hf hq2
    refine lv_iconst (v := (-1)) C.1 C.2.1 dX7_appliedCount_10 (by decide) ?_
    refine lv_goto (tgt := 18) C.1 C.2.1 dX7_appliedCount_11 (by decide) ?_
    obtain ⟨rfl, rfl⟩ := jm_ret_ok hf
    exact jw_ri C hJ hS (Nat.le_refl _) (Nat.le_refl _) dX7_appliedCount_18
set_option maxHeartbeats 4000000 in
set_option maxRecDepth 100000 in
theorem cX7_appliedCount_C (l : Launch) (G : jm_G) (h0 : Nat) (x1 : Int32) {S Sf : jm_S} {rv : Int32} (hf : fX7_appliedCount h0 x1 S = some (rv, Sf)) : Met l yX7_appliedCount wsX7_appliedCount ({ frames := 1, cells := 0, slots := 0, locals := 21 } : Room) (jm_Pc G S [.ref h0, .int x1]) (jm_Q G (some (.int rv)) Sf) 0 0 (jm_A G) := by
  refine Met.ofW (cc := cX7_appliedCount) (maxL := 3) (ret := (some .int)) (by decide) rfl ?_
  intro p e s m args below meth c s₁ B hml hv
  obtain ⟨rfl, hJ, hX⟩ := hv
  have C : jm_C G cX7_appliedCount 3 RX7 wsX7_appliedCount ((some .int)) p s m _ meth c := ⟨B.exec, B.bytes, hml, findClass_of_methodNamed B.named, atoms_spec (ws := wsX7_appliedCount) B.pre, B.returns, B.notSynchronized, hX⟩
  obtain ⟨ls, he, hl⟩ := jm_entry m [.inr (some h0), .inl x1] (n := 3) (Nat.le_of_ble_eq_true rfl)
  have he : entryFrame m ([.ref h0, .int x1] : List Value).toArray 3 = F0 m 0 ls [] := he
  rw [he]
  exact kX7_appliedCount C h0 x1 hf hJ va_S.rf (hl.sub [0, 1] rfl)
/-! CoordinationService.committedCount -/
def fX7_committedCount (h0 : Nat) : jm_P Int32 := jm_rd (jm_gR (some h0) 8 6) fun v1 => (if v1 = none then jm_ret (-2) else jm_rd (jm_gI (some h0) 8 9) fun v3 => jm_ret v3)
theorem inX7_committedCount_X7 : ∀ w ∈ wsX70, w ∈ wsX7_committedCount := fun _ h => List.mem_cons_of_mem _ (List.mem_append_right _ h)
theorem moX7_committedCount (h0 : Nat) : jm_Mo (fX7_committedCount h0) := by
  unfold fX7_committedCount
  exact jm_Mo_rd (fun _ => jm_Mo_if (jm_Mo_ret _) (jm_Mo_rd (fun _ => jm_Mo_ret _)))
set_option maxHeartbeats 4000000 in
set_option maxRecDepth 100000 in
theorem kX7_committedCount {rv : Int32} {Sf : jm_S} (C : jm_C G cX7_committedCount 1 RX7 wsX7_committedCount ((some .int)) p s m args meth c) : ∀ (h0 : Nat) {S : jm_S} {H : Heap} {locs : List Loc} {ls : Array Slot}, fX7_committedCount h0 S = some (rv, Sf) → jm_J G S H → va_S (jm_A G) s.heap H locs → jm_L ls 1 [(0, .inr (some h0))] → W p l e ({ frames := 0, cells := 0, slots := 0, locals := 0 } : Room) s m args below meth c H locs 0 0 (MQ below (jm_Q G (some (.int rv)) Sf) args s 0 0 (jm_A G)) (F0 m 0 ls []) := by
  intro h0 S H locs ls hf hJ hS hl
  unfold fX7_committedCount at hf
  refine jw_aload_n C dX7_committedCount_0 rfl (hl.at 0 rfl) ?_
  obtain ⟨v1, h1, hf⟩ := jm_rd_ok hf
  refine jw_gR (Cn := RX7) (T := TX7) (N := 12) C hJ h1 rfl inX7_committedCount_X7 (by decide) (jm_w C 1 rfl) (fun _ h => h) dX7_committedCount_1 ?_
  refine jw_ifnonnull (tgt := 12) C dX7_committedCount_4 (by decide) (fun hq2 => ?_) (fun hq2 => ?_)
  · replace hf := jm_iff hf hq2
    refine jw_aload_n C dX7_committedCount_12 rfl (hl.at 0 rfl) ?_
    obtain ⟨v3, h3, hf⟩ := jm_rd_ok hf
    refine jw_gI (Cn := RX7) (T := TX7) (N := 12) C hJ h3 rfl inX7_committedCount_X7 (by decide) (jm_w C 2 rfl) (fun _ h => h) dX7_committedCount_13 ?_
    obtain ⟨rfl, rfl⟩ := jm_ret_ok hf
    exact jw_ri C hJ hS (Nat.le_refl _) (Nat.le_refl _) dX7_committedCount_16
  · replace hf := jm_ift hf hq2
    refine lv_bipush (v := (-2)) C.1 C.2.1 dX7_committedCount_7 (by decide) ?_
    refine lv_goto (tgt := 16) C.1 C.2.1 dX7_committedCount_9 (by decide) ?_
    obtain ⟨rfl, rfl⟩ := jm_ret_ok hf
    exact jw_ri C hJ hS (Nat.le_refl _) (Nat.le_refl _) dX7_committedCount_16
set_option maxHeartbeats 4000000 in
set_option maxRecDepth 100000 in
theorem cX7_committedCount_C (l : Launch) (G : jm_G) (h0 : Nat) {S Sf : jm_S} {rv : Int32} (hf : fX7_committedCount h0 S = some (rv, Sf)) : Met l yX7_committedCount wsX7_committedCount ({ frames := 0, cells := 0, slots := 0, locals := 0 } : Room) (jm_Pc G S [.ref h0]) (jm_Q G (some (.int rv)) Sf) 0 0 (jm_A G) := by
  refine Met.ofW (cc := cX7_committedCount) (maxL := 1) (ret := (some .int)) (by decide) rfl ?_
  intro p e s m args below meth c s₁ B hml hv
  obtain ⟨rfl, hJ, hX⟩ := hv
  have C : jm_C G cX7_committedCount 1 RX7 wsX7_committedCount ((some .int)) p s m _ meth c := ⟨B.exec, B.bytes, hml, findClass_of_methodNamed B.named, atoms_spec (ws := wsX7_committedCount) B.pre, B.returns, B.notSynchronized, hX⟩
  obtain ⟨ls, he, hl⟩ := jm_entry m [.inr (some h0)] (n := 1) (Nat.le_of_ble_eq_true rfl)
  have he : entryFrame m ([.ref h0] : List Value).toArray 1 = F0 m 0 ls [] := he
  rw [he]
  exact kX7_committedCount C h0 hf hJ va_S.rf (hl.sub [0] rfl)
/-! CoordinationService.acceptedEpoch -/
def fX7_acceptedEpoch (h0 : Nat) (x1 : Int32) : jm_P Int32 := jm_rd (jm_o (some h0) 8) fun a1 => jm_bd (fX7_findServer a1 x1) fun v1 => (if v1 = none then jm_ret (-1) else jm_rd (jm_gI v1 2 5) fun v3 => jm_ret v3)
theorem inX7_acceptedEpoch_X1 : ∀ w ∈ wsX10, w ∈ wsX7_acceptedEpoch := fun _ h => List.mem_cons_of_mem _ (List.mem_append_left _ (List.mem_append_right _ h))
theorem moX7_acceptedEpoch (h0 : Nat) (x1 : Int32) : jm_Mo (fX7_acceptedEpoch h0 x1) := by
  unfold fX7_acceptedEpoch
  exact jm_Mo_rd (fun _ => jm_Mo_bd (moX7_findServer _ _) (fun _ => jm_Mo_if (jm_Mo_ret _) (jm_Mo_rd (fun _ => jm_Mo_ret _))))
set_option maxHeartbeats 4000000 in
set_option maxRecDepth 100000 in
theorem kX7_acceptedEpoch {rv : Int32} {Sf : jm_S} (C : jm_C G cX7_acceptedEpoch 3 RX7 wsX7_acceptedEpoch ((some .int)) p s m args meth c) : ∀ (h0 : Nat) (x1 : Int32) {S : jm_S} {H : Heap} {locs : List Loc} {ls : Array Slot}, fX7_acceptedEpoch h0 x1 S = some (rv, Sf) → jm_J G S H → va_S (jm_A G) s.heap H locs → jm_L ls 3 [(0, .inr (some h0)), (1, .inl x1)] → W p l e ({ frames := 1, cells := 0, slots := 0, locals := 21 } : Room) s m args below meth c H locs 0 0 (MQ below (jm_Q G (some (.int rv)) Sf) args s 0 0 (jm_A G)) (F0 m 0 ls []) := by
  intro h0 x1 S H locs ls hf hJ hS hl
  unfold fX7_acceptedEpoch at hf
  refine jw_aload_n C dX7_acceptedEpoch_0 rfl (hl.at 0 rfl) ?_
  refine lv_iload_n C.1 C.2.1 dX7_acceptedEpoch_1 rfl (hl.at 1 rfl) ?_
  obtain ⟨a1, o1, hf⟩ := jm_rd_ok hf
  obtain ⟨v1, S1, h1, hf⟩ := jm_bd_ok hf
  refine jw_cV (q := (RX7, TX7, 12)) C hJ hS o1 rfl (cX7_findServer_C l G a1 x1 h1) (cwV 1 C.2.2.2.2.1 gX7_acceptedEpoch_X7_findServer rfl rfl rfl (by decide +kernel) ⟨Nat.le_of_ble_eq_true rfl, Nat.le_of_ble_eq_true rfl⟩) rfl hl.1 rfl (Nat.le_of_ble_eq_true rfl) dX7_acceptedEpoch_2 ⟨Nat.le_refl _, Nat.le_refl _⟩ (fun H locs hJ hS => ?_)
  refine jw_astore_n C dX7_acceptedEpoch_5 rfl hl (by decide) rfl (fun ls hl => ?_)
  refine jw_aload_n C dX7_acceptedEpoch_6 rfl (hl.at 0 rfl) ?_
  refine jw_ifnonnull (tgt := 14) C dX7_acceptedEpoch_7 (by decide) (fun hq2 => ?_) (fun hq2 => ?_)
  · replace hf := jm_iff hf hq2
    refine jw_aload_n C dX7_acceptedEpoch_14 rfl (hl.at 0 rfl) ?_
    obtain ⟨v3, h3, hf⟩ := jm_rd_ok hf
    refine jw_gI (Cn := RX1) (T := TX1) (N := 7) C hJ h3 rfl inX7_acceptedEpoch_X1 (by decide) (jm_w C 1 rfl) (fun _ h => h) dX7_acceptedEpoch_15 ?_
    obtain ⟨rfl, rfl⟩ := jm_ret_ok hf
    exact jw_ri C hJ hS (Nat.le_refl _) (Nat.le_refl _) dX7_acceptedEpoch_18
  · replace hf := jm_ift hf hq2
    refine lv_iconst (v := (-1)) C.1 C.2.1 dX7_acceptedEpoch_10 (by decide) ?_
    refine lv_goto (tgt := 18) C.1 C.2.1 dX7_acceptedEpoch_11 (by decide) ?_
    obtain ⟨rfl, rfl⟩ := jm_ret_ok hf
    exact jw_ri C hJ hS (Nat.le_refl _) (Nat.le_refl _) dX7_acceptedEpoch_18
set_option maxHeartbeats 4000000 in
set_option maxRecDepth 100000 in
theorem cX7_acceptedEpoch_C (l : Launch) (G : jm_G) (h0 : Nat) (x1 : Int32) {S Sf : jm_S} {rv : Int32} (hf : fX7_acceptedEpoch h0 x1 S = some (rv, Sf)) : Met l yX7_acceptedEpoch wsX7_acceptedEpoch ({ frames := 1, cells := 0, slots := 0, locals := 21 } : Room) (jm_Pc G S [.ref h0, .int x1]) (jm_Q G (some (.int rv)) Sf) 0 0 (jm_A G) := by
  refine Met.ofW (cc := cX7_acceptedEpoch) (maxL := 3) (ret := (some .int)) (by decide) rfl ?_
  intro p e s m args below meth c s₁ B hml hv
  obtain ⟨rfl, hJ, hX⟩ := hv
  have C : jm_C G cX7_acceptedEpoch 3 RX7 wsX7_acceptedEpoch ((some .int)) p s m _ meth c := ⟨B.exec, B.bytes, hml, findClass_of_methodNamed B.named, atoms_spec (ws := wsX7_acceptedEpoch) B.pre, B.returns, B.notSynchronized, hX⟩
  obtain ⟨ls, he, hl⟩ := jm_entry m [.inr (some h0), .inl x1] (n := 3) (Nat.le_of_ble_eq_true rfl)
  have he : entryFrame m ([.ref h0, .int x1] : List Value).toArray 3 = F0 m 0 ls [] := he
  rw [he]
  exact kX7_acceptedEpoch C h0 x1 hf hJ va_S.rf (hl.sub [0, 1] rfl)
/-! CoordinationService.appendName -/
def fX7_appendName (h0 : Nat) (x1 : Int32) : jm_P Int32 := (if x1 < 0 then jm_ret (-1) else (if x1 ≤ 5 then jm_rd (jm_gI (some h0) 8 11) fun v3 => (if v3 < 4 then jm_rd (jm_gI (some h0) 8 10) fun v5 => jm_wr (jm_p (some h0) 8 10 (.inl (((v5 <<< (3 &&& 31)) + x1) + 1))) <| jm_rd (jm_gI (some h0) 8 11) fun v7 => jm_wr (jm_p (some h0) 8 11 (.inl (v7 + 1))) <| jm_rd (jm_gI (some h0) 8 11) fun v9 => jm_ret v9 else jm_ret (-7)) else jm_ret (-1)))
theorem inX7_appendName_X7 : ∀ w ∈ wsX70, w ∈ wsX7_appendName := fun _ h => List.mem_cons_of_mem _ (List.mem_append_right _ h)
theorem moX7_appendName (h0 : Nat) (x1 : Int32) : jm_Mo (fX7_appendName h0 x1) := by
  unfold fX7_appendName
  exact jm_Mo_if (jm_Mo_ret _) (jm_Mo_if (jm_Mo_rd (fun _ => jm_Mo_if (jm_Mo_rd (fun _ => jm_Mo_wr jm_p_st (jm_Mo_rd (fun _ => jm_Mo_wr jm_p_st (jm_Mo_rd (fun _ => jm_Mo_ret _)))))) (jm_Mo_ret _))) (jm_Mo_ret _))
set_option maxHeartbeats 4000000 in
set_option maxRecDepth 100000 in
theorem kX7_appendName {rv : Int32} {Sf : jm_S} (C : jm_C G cX7_appendName 2 RX7 wsX7_appendName ((some .int)) p s m args meth c) : ∀ (h0 : Nat) (x1 : Int32) {S : jm_S} {H : Heap} {locs : List Loc} {ls : Array Slot}, fX7_appendName h0 x1 S = some (rv, Sf) → jm_J G S H → va_S (jm_A G) s.heap H locs → jm_L ls 2 [(0, .inr (some h0)), (1, .inl x1)] → W p l e ({ frames := 0, cells := 0, slots := 0, locals := 0 } : Room) s m args below meth c H locs 0 0 (MQ below (jm_Q G (some (.int rv)) Sf) args s 0 0 (jm_A G)) (F0 m 0 ls []) := by
  intro h0 x1 S H locs ls hf hJ hS hl
  unfold fX7_appendName at hf
  refine lv_iload_n C.1 C.2.1 dX7_appendName_0 rfl (hl.at 1 rfl) ?_
  refine lv_if_lt (tgt := 9) C.1 C.2.1 dX7_appendName_1 (by decide) (fun hq1 => ?_) (fun hq1 => ?_)
  · replace hf := jm_ift hf hq1
    refine lv_iconst (v := (-1)) C.1 C.2.1 dX7_appendName_9 (by decide) ?_
    obtain ⟨rfl, rfl⟩ := jm_ret_ok hf
    exact jw_ri C hJ hS (Nat.le_refl _) (Nat.le_refl _) dX7_appendName_10
  · replace hf := jm_iff hf hq1
    refine lv_iload_n C.1 C.2.1 dX7_appendName_4 rfl (hl.at 1 rfl) ?_
    refine lv_iconst (v := 5) C.1 C.2.1 dX7_appendName_5 (by decide) ?_
    refine lv_icmp_le (tgt := 11) C.1 C.2.1 dX7_appendName_6 (by decide) (fun hq2 => ?_) (fun hq2 => ?_)
    · replace hf := jm_ift hf hq2
      refine jw_aload_n C dX7_appendName_11 rfl (hl.at 0 rfl) ?_
      obtain ⟨v3, h3, hf⟩ := jm_rd_ok hf
      refine jw_gI (Cn := RX7) (T := TX7) (N := 12) C hJ h3 rfl inX7_appendName_X7 (by decide) (jm_w C 1 rfl) (fun _ h => h) dX7_appendName_12 ?_
      refine lv_iconst (v := 4) C.1 C.2.1 dX7_appendName_15 (by decide) ?_
      refine lv_icmp_lt (tgt := 22) C.1 C.2.1 dX7_appendName_16 (by decide) (fun hq4 => ?_) (fun hq4 => ?_)
      · replace hf := jm_ift hf hq4
        refine jw_aload_n C dX7_appendName_22 rfl (hl.at 0 rfl) ?_
        refine jw_aload_n C dX7_appendName_23 rfl (hl.at 0 rfl) ?_
        obtain ⟨v5, h5, hf⟩ := jm_rd_ok hf
        refine jw_gI (Cn := RX7) (T := TX7) (N := 12) C hJ h5 rfl inX7_appendName_X7 (by decide) (jm_w C 2 rfl) (fun _ h => h) dX7_appendName_24 ?_
        refine lv_iconst (v := 3) C.1 C.2.1 dX7_appendName_27 (by decide) ?_
        refine lv_ishl C.1 C.2.1 dX7_appendName_28 ?_
        refine lv_iload_n C.1 C.2.1 dX7_appendName_29 rfl (hl.at 1 rfl) ?_
        refine lv_iadd C.1 C.2.1 dX7_appendName_30 ?_
        refine lv_iconst (v := 1) C.1 C.2.1 dX7_appendName_31 (by decide) ?_
        refine lv_iadd C.1 C.2.1 dX7_appendName_32 ?_
        obtain ⟨S6, h6, hf⟩ := jm_wr_ok hf
        refine jw_p (x := .inl (((v5 <<< (3 &&& 31)) + x1) + 1)) (ty := .int) (Cn := RX7) (T := TX7) (N := 12) C hJ hS h6 rfl inX7_appendName_X7 tyX7 tyX7_ok nmX7 (by decide) (jm_w C 2 rfl) (fun _ h => h) rfl (by decide +kernel) rfl rfl dX7_appendName_33 (fun H locs hJ hS => ?_)
        refine jw_aload_n C dX7_appendName_36 rfl (hl.at 0 rfl) ?_
        refine lv_dup C.1 C.2.1 dX7_appendName_37 (jm_catr _) ?_
        obtain ⟨v7, h7, hf⟩ := jm_rd_ok hf
        refine jw_gI (Cn := RX7) (T := TX7) (N := 12) C hJ h7 rfl inX7_appendName_X7 (by decide) (jm_w C 1 rfl) (fun _ h => h) dX7_appendName_38 ?_
        refine lv_iconst (v := 1) C.1 C.2.1 dX7_appendName_41 (by decide) ?_
        refine lv_iadd C.1 C.2.1 dX7_appendName_42 ?_
        obtain ⟨S8, h8, hf⟩ := jm_wr_ok hf
        refine jw_p (x := .inl (v7 + 1)) (ty := .int) (Cn := RX7) (T := TX7) (N := 12) C hJ hS h8 rfl inX7_appendName_X7 tyX7 tyX7_ok nmX7 (by decide) (jm_w C 1 rfl) (fun _ h => h) rfl (by decide +kernel) rfl rfl dX7_appendName_43 (fun H locs hJ hS => ?_)
        refine jw_aload_n C dX7_appendName_46 rfl (hl.at 0 rfl) ?_
        obtain ⟨v9, h9, hf⟩ := jm_rd_ok hf
        refine jw_gI (Cn := RX7) (T := TX7) (N := 12) C hJ h9 rfl inX7_appendName_X7 (by decide) (jm_w C 1 rfl) (fun _ h => h) dX7_appendName_47 ?_
        obtain ⟨rfl, rfl⟩ := jm_ret_ok hf
        exact jw_ri C hJ hS (Nat.le_refl _) (Nat.le_refl _) dX7_appendName_50
      · replace hf := jm_iff hf hq4
        refine lv_bipush (v := (-7)) C.1 C.2.1 dX7_appendName_19 (by decide) ?_
        obtain ⟨rfl, rfl⟩ := jm_ret_ok hf
        exact jw_ri C hJ hS (Nat.le_refl _) (Nat.le_refl _) dX7_appendName_21
    · replace hf := jm_iff hf hq2
      refine lv_iconst (v := (-1)) C.1 C.2.1 dX7_appendName_9 (by decide) ?_
      obtain ⟨rfl, rfl⟩ := jm_ret_ok hf
      exact jw_ri C hJ hS (Nat.le_refl _) (Nat.le_refl _) dX7_appendName_10
set_option maxHeartbeats 4000000 in
set_option maxRecDepth 100000 in
theorem cX7_appendName_C (l : Launch) (G : jm_G) (h0 : Nat) (x1 : Int32) {S Sf : jm_S} {rv : Int32} (hf : fX7_appendName h0 x1 S = some (rv, Sf)) : Met l yX7_appendName wsX7_appendName ({ frames := 0, cells := 0, slots := 0, locals := 0 } : Room) (jm_Pc G S [.ref h0, .int x1]) (jm_Q G (some (.int rv)) Sf) 0 0 (jm_A G) := by
  refine Met.ofW (cc := cX7_appendName) (maxL := 2) (ret := (some .int)) (by decide) rfl ?_
  intro p e s m args below meth c s₁ B hml hv
  obtain ⟨rfl, hJ, hX⟩ := hv
  have C : jm_C G cX7_appendName 2 RX7 wsX7_appendName ((some .int)) p s m _ meth c := ⟨B.exec, B.bytes, hml, findClass_of_methodNamed B.named, atoms_spec (ws := wsX7_appendName) B.pre, B.returns, B.notSynchronized, hX⟩
  obtain ⟨ls, he, hl⟩ := jm_entry m [.inr (some h0), .inl x1] (n := 2) (Nat.le_of_ble_eq_true rfl)
  have he : entryFrame m ([.ref h0, .int x1] : List Value).toArray 2 = F0 m 0 ls [] := he
  rw [he]
  exact kX7_appendName C h0 x1 hf hJ va_S.rf (hl.sub [0, 1] rfl)
/-! CoordinationService.clearPath -/
def fX7_clearPath (h0 : Nat) : jm_P Int32 := jm_rd (jm_gI (some h0) 8 11) fun v1 => jm_wr (jm_p (some h0) 8 10 (.inl 0)) <| jm_wr (jm_p (some h0) 8 11 (.inl 0)) <| jm_ret v1
theorem inX7_clearPath_X7 : ∀ w ∈ wsX70, w ∈ wsX7_clearPath := fun _ h => List.mem_cons_of_mem _ (List.mem_append_right _ h)
theorem moX7_clearPath (h0 : Nat) : jm_Mo (fX7_clearPath h0) := by
  unfold fX7_clearPath
  exact jm_Mo_rd (fun _ => jm_Mo_wr jm_p_st (jm_Mo_wr jm_p_st (jm_Mo_ret _)))
set_option maxHeartbeats 4000000 in
set_option maxRecDepth 100000 in
theorem kX7_clearPath {rv : Int32} {Sf : jm_S} (C : jm_C G cX7_clearPath 2 RX7 wsX7_clearPath ((some .int)) p s m args meth c) : ∀ (h0 : Nat) {S : jm_S} {H : Heap} {locs : List Loc} {ls : Array Slot}, fX7_clearPath h0 S = some (rv, Sf) → jm_J G S H → va_S (jm_A G) s.heap H locs → jm_L ls 2 [(0, .inr (some h0))] → W p l e ({ frames := 0, cells := 0, slots := 0, locals := 0 } : Room) s m args below meth c H locs 0 0 (MQ below (jm_Q G (some (.int rv)) Sf) args s 0 0 (jm_A G)) (F0 m 0 ls []) := by
  intro h0 S H locs ls hf hJ hS hl
  unfold fX7_clearPath at hf
  refine jw_aload_n C dX7_clearPath_0 rfl (hl.at 0 rfl) ?_
  obtain ⟨v1, h1, hf⟩ := jm_rd_ok hf
  refine jw_gI (Cn := RX7) (T := TX7) (N := 12) C hJ h1 rfl inX7_clearPath_X7 (by decide) (jm_w C 1 rfl) (fun _ h => h) dX7_clearPath_1 ?_
  refine jw_istore_n C dX7_clearPath_4 rfl hl (by decide) rfl (fun ls hl => ?_)
  refine jw_aload_n C dX7_clearPath_5 rfl (hl.at 1 rfl) ?_
  refine lv_iconst (v := 0) C.1 C.2.1 dX7_clearPath_6 (by decide) ?_
  obtain ⟨S2, h2, hf⟩ := jm_wr_ok hf
  refine jw_p (x := .inl 0) (ty := .int) (Cn := RX7) (T := TX7) (N := 12) C hJ hS h2 rfl inX7_clearPath_X7 tyX7 tyX7_ok nmX7 (by decide) (jm_w C 2 rfl) (fun _ h => h) rfl (by decide +kernel) rfl rfl dX7_clearPath_7 (fun H locs hJ hS => ?_)
  refine jw_aload_n C dX7_clearPath_10 rfl (hl.at 1 rfl) ?_
  refine lv_iconst (v := 0) C.1 C.2.1 dX7_clearPath_11 (by decide) ?_
  obtain ⟨S3, h3, hf⟩ := jm_wr_ok hf
  refine jw_p (x := .inl 0) (ty := .int) (Cn := RX7) (T := TX7) (N := 12) C hJ hS h3 rfl inX7_clearPath_X7 tyX7 tyX7_ok nmX7 (by decide) (jm_w C 1 rfl) (fun _ h => h) rfl (by decide +kernel) rfl rfl dX7_clearPath_12 (fun H locs hJ hS => ?_)
  refine lv_iload_n C.1 C.2.1 dX7_clearPath_15 rfl (hl.at 0 rfl) ?_
  obtain ⟨rfl, rfl⟩ := jm_ret_ok hf
  exact jw_ri C hJ hS (Nat.le_refl _) (Nat.le_refl _) dX7_clearPath_16
set_option maxHeartbeats 4000000 in
set_option maxRecDepth 100000 in
theorem cX7_clearPath_C (l : Launch) (G : jm_G) (h0 : Nat) {S Sf : jm_S} {rv : Int32} (hf : fX7_clearPath h0 S = some (rv, Sf)) : Met l yX7_clearPath wsX7_clearPath ({ frames := 0, cells := 0, slots := 0, locals := 0 } : Room) (jm_Pc G S [.ref h0]) (jm_Q G (some (.int rv)) Sf) 0 0 (jm_A G) := by
  refine Met.ofW (cc := cX7_clearPath) (maxL := 2) (ret := (some .int)) (by decide) rfl ?_
  intro p e s m args below meth c s₁ B hml hv
  obtain ⟨rfl, hJ, hX⟩ := hv
  have C : jm_C G cX7_clearPath 2 RX7 wsX7_clearPath ((some .int)) p s m _ meth c := ⟨B.exec, B.bytes, hml, findClass_of_methodNamed B.named, atoms_spec (ws := wsX7_clearPath) B.pre, B.returns, B.notSynchronized, hX⟩
  obtain ⟨ls, he, hl⟩ := jm_entry m [.inr (some h0)] (n := 2) (Nat.le_of_ble_eq_true rfl)
  have he : entryFrame m ([.ref h0] : List Value).toArray 2 = F0 m 0 ls [] := he
  rw [he]
  exact kX7_clearPath C h0 hf hJ va_S.rf (hl.sub [0] rfl)
/-! CoordinationService.isData -/
def fX7_isData (x0 : Int32) : jm_P Int32 := (if x0 < 0 then jm_rd (jm_z 0) fun _ => jm_ret 0 else (if 999 < x0 then jm_rd (jm_z 0) fun _ => jm_ret 0 else jm_rd (jm_z 1) fun _ => jm_ret 1))
theorem moX7_isData (x0 : Int32) : jm_Mo (fX7_isData x0) := by
  unfold fX7_isData
  exact jm_Mo_if (jm_Mo_rd (fun _ => jm_Mo_ret _)) (jm_Mo_if (jm_Mo_rd (fun _ => jm_Mo_ret _)) (jm_Mo_rd (fun _ => jm_Mo_ret _)))
set_option maxHeartbeats 4000000 in
set_option maxRecDepth 100000 in
theorem kX7_isData {rv : Int32} {Sf : jm_S} (C : jm_C G cX7_isData 1 RX7 wsX7_isData ((some .boolean)) p s m args meth c) : ∀ (x0 : Int32) {S : jm_S} {H : Heap} {locs : List Loc} {ls : Array Slot}, fX7_isData x0 S = some (rv, Sf) → jm_J G S H → va_S (jm_A G) s.heap H locs → jm_L ls 1 [(0, .inl x0)] → W p l e ({ frames := 0, cells := 0, slots := 0, locals := 0 } : Room) s m args below meth c H locs 0 0 (MQ below (jm_Q G (some (.int rv)) Sf) args s 0 0 (jm_A G)) (F0 m 0 ls []) := by
  intro x0 S H locs ls hf hJ hS hl
  unfold fX7_isData at hf
  refine lv_iload_n C.1 C.2.1 dX7_isData_0 rfl (hl.at 0 rfl) ?_
  refine lv_if_lt (tgt := 15) C.1 C.2.1 dX7_isData_1 (by decide) (fun hq1 => ?_) (fun hq1 => ?_)
  · replace hf := jm_ift hf hq1
    refine lv_iconst (v := 0) C.1 C.2.1 dX7_isData_15 (by decide) ?_
    obtain ⟨u2, z2, hf⟩ := jm_rd_ok hf
    obtain ⟨rfl, rfl⟩ := jm_ret_ok hf
    exact jw_rz C hJ hS z2 (Nat.le_refl _) (Nat.le_refl _) dX7_isData_16
  · replace hf := jm_iff hf hq1
    refine lv_iload_n C.1 C.2.1 dX7_isData_4 rfl (hl.at 0 rfl) ?_
    refine lv_sipush (v := 999) C.1 C.2.1 dX7_isData_5 (by decide) ?_
    refine lv_icmp_gt (tgt := 15) C.1 C.2.1 dX7_isData_8 (by decide) (fun hq3 => ?_) (fun hq3 => ?_)
    · replace hf := jm_ift hf hq3
      refine lv_iconst (v := 0) C.1 C.2.1 dX7_isData_15 (by decide) ?_
      obtain ⟨u4, z4, hf⟩ := jm_rd_ok hf
      obtain ⟨rfl, rfl⟩ := jm_ret_ok hf
      exact jw_rz C hJ hS z4 (Nat.le_refl _) (Nat.le_refl _) dX7_isData_16
    · replace hf := jm_iff hf hq3
      refine lv_iconst (v := 1) C.1 C.2.1 dX7_isData_11 (by decide) ?_
      refine lv_goto (tgt := 16) C.1 C.2.1 dX7_isData_12 (by decide) ?_
      obtain ⟨u5, z5, hf⟩ := jm_rd_ok hf
      obtain ⟨rfl, rfl⟩ := jm_ret_ok hf
      exact jw_rz C hJ hS z5 (Nat.le_refl _) (Nat.le_refl _) dX7_isData_16
set_option maxHeartbeats 4000000 in
set_option maxRecDepth 100000 in
theorem cX7_isData_C (l : Launch) (G : jm_G) (x0 : Int32) {S Sf : jm_S} {rv : Int32} (hf : fX7_isData x0 S = some (rv, Sf)) : Met l yX7_isData wsX7_isData ({ frames := 0, cells := 0, slots := 0, locals := 0 } : Room) (jm_Pc G S [.int x0]) (jm_Q G (some (.int rv)) Sf) 0 0 (jm_A G) := by
  refine Met.ofW (cc := cX7_isData) (maxL := 1) (ret := (some .boolean)) (by decide) rfl ?_
  intro p e s m args below meth c s₁ B hml hv
  obtain ⟨rfl, hJ, hX⟩ := hv
  have C : jm_C G cX7_isData 1 RX7 wsX7_isData ((some .boolean)) p s m _ meth c := ⟨B.exec, B.bytes, hml, findClass_of_methodNamed B.named, atoms_spec (ws := wsX7_isData) B.pre, B.returns, B.notSynchronized, hX⟩
  obtain ⟨ls, he, hl⟩ := jm_entry m [.inl x0] (n := 1) (Nat.le_of_ble_eq_true rfl)
  have he : entryFrame m ([.int x0] : List Value).toArray 1 = F0 m 0 ls [] := he
  rw [he]
  exact kX7_isData C x0 hf hJ va_S.rf (hl.sub [0] rfl)
/-! CoordinationService.findSession -/
def fX7_findSession (h0 : Nat) (x1 : Int32) : jm_P (Option Nat) := (if x1 < 0 then jm_ret none else jm_rd (jm_gI (some h0) 8 5) fun v2 => (if x1 < v2 then jm_rd (jm_gR (some h0) 8 1) fun v4 => jm_rd (jm_gq v4 4 x1) fun v5 => jm_ret v5 else jm_ret none))
theorem inX7_findSession_X7 : ∀ w ∈ wsX70, w ∈ wsX7_findSession := fun _ h => List.mem_cons_of_mem _ (List.mem_append_right _ h)
theorem moX7_findSession (h0 : Nat) (x1 : Int32) : jm_Mo (fX7_findSession h0 x1) := by
  unfold fX7_findSession
  exact jm_Mo_if (jm_Mo_ret _) (jm_Mo_rd (fun _ => jm_Mo_if (jm_Mo_rd (fun _ => jm_Mo_rd (fun _ => jm_Mo_ret _))) (jm_Mo_ret _)))
set_option maxHeartbeats 4000000 in
set_option maxRecDepth 100000 in
theorem kX7_findSession {rv : (Option Nat)} {Sf : jm_S} (C : jm_C G cX7_findSession 2 RX7 wsX7_findSession ((some (.object "CoordinationService$Session"))) p s m args meth c) : ∀ (h0 : Nat) (x1 : Int32) {S : jm_S} {H : Heap} {locs : List Loc} {ls : Array Slot}, fX7_findSession h0 x1 S = some (rv, Sf) → jm_J G S H → va_S (jm_A G) s.heap H locs → jm_L ls 2 [(0, .inr (some h0)), (1, .inl x1)] → W p l e ({ frames := 0, cells := 0, slots := 0, locals := 0 } : Room) s m args below meth c H locs 0 0 (MQ below (jm_Q G (some (va_rf rv)) Sf) args s 0 0 (jm_A G)) (F0 m 0 ls []) := by
  intro h0 x1 S H locs ls hf hJ hS hl
  unfold fX7_findSession at hf
  refine lv_iload_n C.1 C.2.1 dX7_findSession_0 rfl (hl.at 1 rfl) ?_
  refine lv_if_lt (tgt := 12) C.1 C.2.1 dX7_findSession_1 (by decide) (fun hq1 => ?_) (fun hq1 => ?_)
  · replace hf := jm_ift hf hq1
    refine lv_null C.1 C.2.1 dX7_findSession_12 ?_
    show W _ _ _ _ _ _ _ _ _ _ _ _ _ _ _ (F0 _ _ _ (va_rf none :: _))
    refine lv_goto (tgt := 22) C.1 C.2.1 dX7_findSession_13 (by decide) ?_
    obtain ⟨rfl, rfl⟩ := jm_ret_ok hf
    exact jw_ra C (Or.inl ⟨_, rfl⟩) hJ hS (Nat.le_refl _) (Nat.le_refl _) dX7_findSession_22
  · replace hf := jm_iff hf hq1
    refine lv_iload_n C.1 C.2.1 dX7_findSession_4 rfl (hl.at 1 rfl) ?_
    refine jw_aload_n C dX7_findSession_5 rfl (hl.at 0 rfl) ?_
    obtain ⟨v2, h2, hf⟩ := jm_rd_ok hf
    refine jw_gI (Cn := RX7) (T := TX7) (N := 12) C hJ h2 rfl inX7_findSession_X7 (by decide) (jm_w C 1 rfl) (fun _ h => h) dX7_findSession_6 ?_
    refine lv_icmp_lt (tgt := 16) C.1 C.2.1 dX7_findSession_9 (by decide) (fun hq3 => ?_) (fun hq3 => ?_)
    · replace hf := jm_ift hf hq3
      refine jw_aload_n C dX7_findSession_16 rfl (hl.at 0 rfl) ?_
      obtain ⟨v4, h4, hf⟩ := jm_rd_ok hf
      refine jw_gR (Cn := RX7) (T := TX7) (N := 12) C hJ h4 rfl inX7_findSession_X7 (by decide) (jm_w C 2 rfl) (fun _ h => h) dX7_findSession_17 ?_
      refine lv_iload_n C.1 C.2.1 dX7_findSession_20 rfl (hl.at 1 rfl) ?_
      obtain ⟨v5, h5, hf⟩ := jm_rd_ok hf
      refine jw_aaload C hJ h5 (by decide) rfl dX7_findSession_21 ?_
      obtain ⟨rfl, rfl⟩ := jm_ret_ok hf
      exact jw_ra C (Or.inl ⟨_, rfl⟩) hJ hS (Nat.le_refl _) (Nat.le_refl _) dX7_findSession_22
    · replace hf := jm_iff hf hq3
      refine lv_null C.1 C.2.1 dX7_findSession_12 ?_
      show W _ _ _ _ _ _ _ _ _ _ _ _ _ _ _ (F0 _ _ _ (va_rf none :: _))
      refine lv_goto (tgt := 22) C.1 C.2.1 dX7_findSession_13 (by decide) ?_
      obtain ⟨rfl, rfl⟩ := jm_ret_ok hf
      exact jw_ra C (Or.inl ⟨_, rfl⟩) hJ hS (Nat.le_refl _) (Nat.le_refl _) dX7_findSession_22
set_option maxHeartbeats 4000000 in
set_option maxRecDepth 100000 in
theorem cX7_findSession_C (l : Launch) (G : jm_G) (h0 : Nat) (x1 : Int32) {S Sf : jm_S} {rv : (Option Nat)} (hf : fX7_findSession h0 x1 S = some (rv, Sf)) : Met l yX7_findSession wsX7_findSession ({ frames := 0, cells := 0, slots := 0, locals := 0 } : Room) (jm_Pc G S [.ref h0, .int x1]) (jm_Q G (some (va_rf rv)) Sf) 0 0 (jm_A G) := by
  refine Met.ofW (cc := cX7_findSession) (maxL := 2) (ret := (some (.object "CoordinationService$Session"))) (by decide) rfl ?_
  intro p e s m args below meth c s₁ B hml hv
  obtain ⟨rfl, hJ, hX⟩ := hv
  have C : jm_C G cX7_findSession 2 RX7 wsX7_findSession ((some (.object "CoordinationService$Session"))) p s m _ meth c := ⟨B.exec, B.bytes, hml, findClass_of_methodNamed B.named, atoms_spec (ws := wsX7_findSession) B.pre, B.returns, B.notSynchronized, hX⟩
  obtain ⟨ls, he, hl⟩ := jm_entry m [.inr (some h0), .inl x1] (n := 2) (Nat.le_of_ble_eq_true rfl)
  have he : entryFrame m ([.ref h0, .int x1] : List Value).toArray 2 = F0 m 0 ls [] := he
  rw [he]
  exact kX7_findSession C h0 x1 hf hJ va_S.rf (hl.sub [0, 1] rfl)
/-! CoordinationService$Server.hasClosed -/
def fX1_hasClosed_2 : Nat → Nat → Int32 → Int32 → jm_P Int32
  | 0, _, _, _ => jm_no
  | n + 1, h0, x1, x2 => jm_rd (jm_gR (some h0) 2 2) fun v1 => jm_rd (jm_o v1 0) fun a2 => jm_bd (fJx4a65c_size_8abf5 a2) fun v2 => (if v2 ≤ x2 then jm_rd (jm_z 0) fun _ => jm_ret 0 else jm_rd (jm_gR (some h0) 2 2) fun v5 => jm_rd (jm_o v5 0) fun a6 => jm_bd (fJx4a65c_get_915e3 a6 x2) fun v6 => jm_rd (jm_ck v6 4) fun _ => jm_rd (jm_gI v6 4 1) fun v8 => (if v8 = 3 then jm_rd (jm_gI v6 4 4) fun v10 => (if v10 = x1 then jm_rd (jm_z 1) fun _ => jm_ret 1 else fX1_hasClosed_2 n h0 x1 (x2 + 1)) else fX1_hasClosed_2 n h0 x1 (x2 + 1)))
def fX1_hasClosed (h0 : Nat) (x1 : Int32) : jm_P Int32 := fX1_hasClosed_2 4096 h0 x1 0
theorem inX1_hasClosed_X1 : ∀ w ∈ wsX10, w ∈ wsX1_hasClosed := fun _ h => List.mem_cons_of_mem _ (List.mem_append_left _ (List.mem_append_left _ (List.mem_append_right _ h)))
theorem inX1_hasClosed_X3 : ∀ w ∈ wsX30, w ∈ wsX1_hasClosed := fun _ h => List.mem_cons_of_mem _ (List.mem_append_left _ (List.mem_append_right _ h))
theorem moX1_hasClosed_2 : ∀ (n : Nat) (h0 : Nat) (x1 : Int32) (x2 : Int32), jm_Mo (fX1_hasClosed_2 n h0 x1 x2) := by
  intro n
  induction n with
  | zero =>
    intro h0 x1 x2
    rw [fX1_hasClosed_2]
    exact jm_Mo_no
  | succ n ih =>
    intro h0 x1 x2
    rw [fX1_hasClosed_2]
    exact jm_Mo_rd (fun _ => jm_Mo_rd (fun _ => jm_Mo_bd (moJx4a65c_size_8abf5 _) (fun _ => jm_Mo_if (jm_Mo_rd (fun _ => jm_Mo_ret _)) (jm_Mo_rd (fun _ => jm_Mo_rd (fun _ => jm_Mo_bd (moJx4a65c_get_915e3 _ _) (fun _ => jm_Mo_rd (fun _ => jm_Mo_rd (fun _ => jm_Mo_if (jm_Mo_rd (fun _ => jm_Mo_if (jm_Mo_rd (fun _ => jm_Mo_ret _)) (ih _ _ _))) (ih _ _ _))))))))))
set_option maxHeartbeats 4000000 in
set_option maxRecDepth 100000 in
theorem kX1_hasClosed_2 {rv : Int32} {Sf : jm_S} (C : jm_C G cX1_hasClosed 4 RX1 wsX1_hasClosed ((some .boolean)) p s m args meth c) : ∀ (n : Nat) (h0 : Nat) (x1 : Int32) (x2 : Int32) {S : jm_S} {H : Heap} {locs : List Loc} {ls : Array Slot}, fX1_hasClosed_2 n h0 x1 x2 S = some (rv, Sf) → jm_J G S H → va_S (jm_A G) s.heap H locs → jm_L ls 4 [(0, .inr (some h0)), (1, .inl x1), (2, .inl x2)] → W p l e ({ frames := 3, cells := 0, slots := 0, locals := 64 } : Room) s m args below meth c H locs 0 0 (MQ below (jm_Q G (some (.int rv)) Sf) args s 0 0 (jm_A G)) (F0 m 2 ls []) := by
  intro n
  induction n with
  | zero =>
    intro h0 x1 x2 S H locs ls hf
    rw [fX1_hasClosed_2] at hf
    exact absurd hf (fun h => jm_no_ok h)
  | succ n ih =>
    intro h0 x1 x2 S H locs ls hf hJ hS hl
    rw [fX1_hasClosed_2] at hf
    refine lv_iload_n C.1 C.2.1 dX1_hasClosed_2 rfl (hl.at 2 rfl) ?_
    refine jw_aload_n C dX1_hasClosed_3 rfl (hl.at 0 rfl) ?_
    obtain ⟨v1, h1, hf⟩ := jm_rd_ok hf
    refine jw_gR (Cn := RX1) (T := TX1) (N := 7) C hJ h1 rfl inX1_hasClosed_X1 (by decide) (jm_w C 1 rfl) (fun _ h => h) dX1_hasClosed_4 ?_
    obtain ⟨a2, o2, hf⟩ := jm_rd_ok hf
    obtain ⟨v2, S2, h2, hf⟩ := jm_bd_ok hf
    refine jw_cV (q := (RJx4a65c, TJx4a65c, 3)) C hJ hS o2 rfl (cJx4a65c_size_8abf5_C l G a2 h2) (cwV 0 C.2.2.2.2.1 gX1_hasClosed_Jx4a65c_size_8abf5 rfl rfl rfl (by decide +kernel) ⟨Nat.le_of_ble_eq_true rfl, Nat.le_of_ble_eq_true rfl⟩) rfl hl.1 rfl (Nat.le_of_ble_eq_true rfl) dX1_hasClosed_7 ⟨Nat.le_refl _, Nat.le_refl _⟩ (fun H locs hJ hS => ?_)
    refine lv_icmp_ge (tgt := 49) C.1 C.2.1 dX1_hasClosed_10 (by decide) (fun hq3 => ?_) (fun hq3 => ?_)
    · replace hf := jm_ift hf hq3
      refine lv_iconst (v := 0) C.1 C.2.1 dX1_hasClosed_49 (by decide) ?_
      obtain ⟨u4, z4, hf⟩ := jm_rd_ok hf
      obtain ⟨rfl, rfl⟩ := jm_ret_ok hf
      exact jw_rz C hJ hS z4 (Nat.le_refl _) (Nat.le_refl _) dX1_hasClosed_50
    · replace hf := jm_iff hf hq3
      refine jw_aload_n C dX1_hasClosed_13 rfl (hl.at 0 rfl) ?_
      obtain ⟨v5, h5, hf⟩ := jm_rd_ok hf
      refine jw_gR (Cn := RX1) (T := TX1) (N := 7) C hJ h5 rfl inX1_hasClosed_X1 (by decide) (jm_w C 1 rfl) (fun _ h => h) dX1_hasClosed_14 ?_
      refine lv_iload_n C.1 C.2.1 dX1_hasClosed_17 rfl (hl.at 2 rfl) ?_
      obtain ⟨a6, o6, hf⟩ := jm_rd_ok hf
      obtain ⟨v6, S6, h6, hf⟩ := jm_bd_ok hf
      refine jw_cV (q := (RJx4a65c, TJx4a65c, 3)) C hJ hS o6 rfl (cJx4a65c_get_915e3_C l G a6 x2 h6) (cwV 1 C.2.2.2.2.1 gX1_hasClosed_Jx4a65c_get_915e3 rfl rfl rfl (by decide +kernel) ⟨Nat.le_of_ble_eq_true rfl, Nat.le_of_ble_eq_true rfl⟩) rfl hl.1 rfl (Nat.le_of_ble_eq_true rfl) dX1_hasClosed_18 ⟨Nat.le_refl _, Nat.le_refl _⟩ (fun H locs hJ hS => ?_)
      obtain ⟨u7, h7, hf⟩ := jm_rd_ok hf
      refine jw_ck (q := (RX3, TX3, 5)) C hJ h7 rfl (jm_w C 2 rfl) dX1_hasClosed_21 ?_
      refine jw_astore_n C dX1_hasClosed_24 rfl hl (by decide) rfl (fun ls hl => ?_)
      refine jw_aload_n C dX1_hasClosed_25 rfl (hl.at 0 rfl) ?_
      obtain ⟨v8, h8, hf⟩ := jm_rd_ok hf
      refine jw_gI (Cn := RX3) (T := TX3) (N := 5) C hJ h8 rfl inX1_hasClosed_X3 (by decide) (jm_w C 3 rfl) (fun _ h => h) dX1_hasClosed_26 ?_
      refine lv_iconst (v := 3) C.1 C.2.1 dX1_hasClosed_29 (by decide) ?_
      refine lv_icmp_ne (tgt := 43) C.1 C.2.1 dX1_hasClosed_30 (by decide) (fun hq9 => ?_) (fun hq9 => ?_)
      · replace hf := jm_iff hf hq9
        refine jw_iinc (v := x2 + 1) C 3 dX1_hasClosed_43 hl rfl (by rfl) (by decide) rfl (fun ls hl => ?_)
        refine lv_goto (tgt := 2) C.1 C.2.1 dX1_hasClosed_46 (by decide) ?_
        exact ih h0 x1 (x2 + 1) hf hJ hS (hl.sub [2, 3, 0] rfl)
      · replace hf := jm_ift hf hq9
        refine jw_aload_n C dX1_hasClosed_33 rfl (hl.at 0 rfl) ?_
        obtain ⟨v10, h10, hf⟩ := jm_rd_ok hf
        refine jw_gI (Cn := RX3) (T := TX3) (N := 5) C hJ h10 rfl inX1_hasClosed_X3 (by decide) (jm_w C 4 rfl) (fun _ h => h) dX1_hasClosed_34 ?_
        refine lv_iload_n C.1 C.2.1 dX1_hasClosed_37 rfl (hl.at 2 rfl) ?_
        refine lv_icmp_ne (tgt := 43) C.1 C.2.1 dX1_hasClosed_38 (by decide) (fun hq11 => ?_) (fun hq11 => ?_)
        · replace hf := jm_iff hf hq11
          refine jw_iinc (v := x2 + 1) C 3 dX1_hasClosed_43 hl rfl (by rfl) (by decide) rfl (fun ls hl => ?_)
          refine lv_goto (tgt := 2) C.1 C.2.1 dX1_hasClosed_46 (by decide) ?_
          exact ih h0 x1 (x2 + 1) hf hJ hS (hl.sub [2, 3, 0] rfl)
        · replace hf := jm_ift hf hq11
          refine lv_iconst (v := 1) C.1 C.2.1 dX1_hasClosed_41 (by decide) ?_
          obtain ⟨u12, z12, hf⟩ := jm_rd_ok hf
          obtain ⟨rfl, rfl⟩ := jm_ret_ok hf
          exact jw_rz C hJ hS z12 (Nat.le_refl _) (Nat.le_refl _) dX1_hasClosed_42
theorem moX1_hasClosed (h0 : Nat) (x1 : Int32) : jm_Mo (fX1_hasClosed h0 x1) := by
  unfold fX1_hasClosed
  exact moX1_hasClosed_2 _ _ _ _
set_option maxHeartbeats 4000000 in
set_option maxRecDepth 100000 in
theorem kX1_hasClosed {rv : Int32} {Sf : jm_S} (C : jm_C G cX1_hasClosed 4 RX1 wsX1_hasClosed ((some .boolean)) p s m args meth c) : ∀ (h0 : Nat) (x1 : Int32) {S : jm_S} {H : Heap} {locs : List Loc} {ls : Array Slot}, fX1_hasClosed h0 x1 S = some (rv, Sf) → jm_J G S H → va_S (jm_A G) s.heap H locs → jm_L ls 4 [(0, .inr (some h0)), (1, .inl x1)] → W p l e ({ frames := 3, cells := 0, slots := 0, locals := 64 } : Room) s m args below meth c H locs 0 0 (MQ below (jm_Q G (some (.int rv)) Sf) args s 0 0 (jm_A G)) (F0 m 0 ls []) := by
  intro h0 x1 S H locs ls hf hJ hS hl
  unfold fX1_hasClosed at hf
  refine lv_iconst (v := 0) C.1 C.2.1 dX1_hasClosed_0 (by decide) ?_
  refine jw_istore_n C dX1_hasClosed_1 rfl hl (by decide) rfl (fun ls hl => ?_)
  exact kX1_hasClosed_2 C 4096 h0 x1 0 hf hJ hS (hl.sub [1, 2, 0] rfl)
set_option maxHeartbeats 4000000 in
set_option maxRecDepth 100000 in
theorem cX1_hasClosed_C (l : Launch) (G : jm_G) (h0 : Nat) (x1 : Int32) {S Sf : jm_S} {rv : Int32} (hf : fX1_hasClosed h0 x1 S = some (rv, Sf)) : Met l yX1_hasClosed wsX1_hasClosed ({ frames := 3, cells := 0, slots := 0, locals := 64 } : Room) (jm_Pc G S [.ref h0, .int x1]) (jm_Q G (some (.int rv)) Sf) 0 0 (jm_A G) := by
  refine Met.ofW (cc := cX1_hasClosed) (maxL := 4) (ret := (some .boolean)) (by decide) rfl ?_
  intro p e s m args below meth c s₁ B hml hv
  obtain ⟨rfl, hJ, hX⟩ := hv
  have C : jm_C G cX1_hasClosed 4 RX1 wsX1_hasClosed ((some .boolean)) p s m _ meth c := ⟨B.exec, B.bytes, hml, findClass_of_methodNamed B.named, atoms_spec (ws := wsX1_hasClosed) B.pre, B.returns, B.notSynchronized, hX⟩
  obtain ⟨ls, he, hl⟩ := jm_entry m [.inr (some h0), .inl x1] (n := 4) (Nat.le_of_ble_eq_true rfl)
  have he : entryFrame m ([.ref h0, .int x1] : List Value).toArray 4 = F0 m 0 ls [] := he
  rw [he]
  exact kX1_hasClosed C h0 x1 hf hJ va_S.rf (hl.sub [0, 1] rfl)
/-! CoordinationService.parentOf -/
def fX7_parentOf (x0 : Int32) : jm_P Int32 := jm_ret (x0 >>> (3 &&& 31))
theorem moX7_parentOf (x0 : Int32) : jm_Mo (fX7_parentOf x0) := by
  unfold fX7_parentOf
  exact jm_Mo_ret _
set_option maxHeartbeats 4000000 in
set_option maxRecDepth 100000 in
theorem kX7_parentOf {rv : Int32} {Sf : jm_S} (C : jm_C G cX7_parentOf 1 RX7 wsX7_parentOf ((some .int)) p s m args meth c) : ∀ (x0 : Int32) {S : jm_S} {H : Heap} {locs : List Loc} {ls : Array Slot}, fX7_parentOf x0 S = some (rv, Sf) → jm_J G S H → va_S (jm_A G) s.heap H locs → jm_L ls 1 [(0, .inl x0)] → W p l e ({ frames := 0, cells := 0, slots := 0, locals := 0 } : Room) s m args below meth c H locs 0 0 (MQ below (jm_Q G (some (.int rv)) Sf) args s 0 0 (jm_A G)) (F0 m 0 ls []) := by
  intro x0 S H locs ls hf hJ hS hl
  unfold fX7_parentOf at hf
  refine lv_iload_n C.1 C.2.1 dX7_parentOf_0 rfl (hl.at 0 rfl) ?_
  refine lv_iconst (v := 3) C.1 C.2.1 dX7_parentOf_1 (by decide) ?_
  refine lv_ishr C.1 C.2.1 dX7_parentOf_2 ?_
  obtain ⟨rfl, rfl⟩ := jm_ret_ok hf
  exact jw_ri C hJ hS (Nat.le_refl _) (Nat.le_refl _) dX7_parentOf_3
set_option maxHeartbeats 4000000 in
set_option maxRecDepth 100000 in
theorem cX7_parentOf_C (l : Launch) (G : jm_G) (x0 : Int32) {S Sf : jm_S} {rv : Int32} (hf : fX7_parentOf x0 S = some (rv, Sf)) : Met l yX7_parentOf wsX7_parentOf ({ frames := 0, cells := 0, slots := 0, locals := 0 } : Room) (jm_Pc G S [.int x0]) (jm_Q G (some (.int rv)) Sf) 0 0 (jm_A G) := by
  refine Met.ofW (cc := cX7_parentOf) (maxL := 1) (ret := (some .int)) (by decide) rfl ?_
  intro p e s m args below meth c s₁ B hml hv
  obtain ⟨rfl, hJ, hX⟩ := hv
  have C : jm_C G cX7_parentOf 1 RX7 wsX7_parentOf ((some .int)) p s m _ meth c := ⟨B.exec, B.bytes, hml, findClass_of_methodNamed B.named, atoms_spec (ws := wsX7_parentOf) B.pre, B.returns, B.notSynchronized, hX⟩
  obtain ⟨ls, he, hl⟩ := jm_entry m [.inl x0] (n := 1) (Nat.le_of_ble_eq_true rfl)
  have he : entryFrame m ([.int x0] : List Value).toArray 1 = F0 m 0 ls [] := he
  rw [he]
  exact kX7_parentOf C x0 hf hJ va_S.rf (hl.sub [0] rfl)
/-! CoordinationService$Tree.canHaveChildren -/
def fX4_canHaveChildren (h0 : Nat) (x1 : Int32) : jm_P Int32 := (if x1 = 0 then jm_rd (jm_z 1) fun _ => jm_ret 1 else jm_rd (jm_o (some h0) 5) fun a2 => jm_bd (fX4_find a2 x1) fun v2 => (if v2 = none then jm_rd (jm_z 0) fun _ => jm_ret 0 else jm_rd (jm_gI v2 1 3) fun v5 => (if v5 = (-8) then jm_rd (jm_z 1) fun _ => jm_ret 1 else jm_rd (jm_z 0) fun _ => jm_ret 0)))
theorem inX4_canHaveChildren_X0 : ∀ w ∈ wsX00, w ∈ wsX4_canHaveChildren := fun _ h => List.mem_cons_of_mem _ (List.mem_append_left _ (List.mem_append_right _ h))
theorem moX4_canHaveChildren (h0 : Nat) (x1 : Int32) : jm_Mo (fX4_canHaveChildren h0 x1) := by
  unfold fX4_canHaveChildren
  exact jm_Mo_if (jm_Mo_rd (fun _ => jm_Mo_ret _)) (jm_Mo_rd (fun _ => jm_Mo_bd (moX4_find _ _) (fun _ => jm_Mo_if (jm_Mo_rd (fun _ => jm_Mo_ret _)) (jm_Mo_rd (fun _ => jm_Mo_if (jm_Mo_rd (fun _ => jm_Mo_ret _)) (jm_Mo_rd (fun _ => jm_Mo_ret _)))))))
set_option maxHeartbeats 4000000 in
set_option maxRecDepth 100000 in
theorem kX4_canHaveChildren {rv : Int32} {Sf : jm_S} (C : jm_C G cX4_canHaveChildren 3 RX4 wsX4_canHaveChildren ((some .boolean)) p s m args meth c) : ∀ (h0 : Nat) (x1 : Int32) {S : jm_S} {H : Heap} {locs : List Loc} {ls : Array Slot}, fX4_canHaveChildren h0 x1 S = some (rv, Sf) → jm_J G S H → va_S (jm_A G) s.heap H locs → jm_L ls 3 [(0, .inr (some h0)), (1, .inl x1)] → W p l e ({ frames := 1, cells := 0, slots := 0, locals := 25 } : Room) s m args below meth c H locs 0 0 (MQ below (jm_Q G (some (.int rv)) Sf) args s 0 0 (jm_A G)) (F0 m 0 ls []) := by
  intro h0 x1 S H locs ls hf hJ hS hl
  unfold fX4_canHaveChildren at hf
  refine lv_iload_n C.1 C.2.1 dX4_canHaveChildren_0 rfl (hl.at 1 rfl) ?_
  refine lv_if_ne (tgt := 6) C.1 C.2.1 dX4_canHaveChildren_1 (by decide) (fun hq1 => ?_) (fun hq1 => ?_)
  · replace hf := jm_iff hf hq1
    refine jw_aload_n C dX4_canHaveChildren_6 rfl (hl.at 0 rfl) ?_
    refine lv_iload_n C.1 C.2.1 dX4_canHaveChildren_7 rfl (hl.at 1 rfl) ?_
    obtain ⟨a2, o2, hf⟩ := jm_rd_ok hf
    obtain ⟨v2, S2, h2, hf⟩ := jm_bd_ok hf
    refine jw_cV (q := (RX4, TX4, 2)) C hJ hS o2 rfl (cX4_find_C l G a2 x1 h2) (cwV 1 C.2.2.2.2.1 gX4_canHaveChildren_X4_find rfl rfl rfl (by decide +kernel) ⟨Nat.le_of_ble_eq_true rfl, Nat.le_of_ble_eq_true rfl⟩) rfl hl.1 rfl (Nat.le_of_ble_eq_true rfl) dX4_canHaveChildren_8 ⟨Nat.le_refl _, Nat.le_refl _⟩ (fun H locs hJ hS => ?_)
    refine jw_astore_n C dX4_canHaveChildren_11 rfl hl (by decide) rfl (fun ls hl => ?_)
    refine jw_aload_n C dX4_canHaveChildren_12 rfl (hl.at 0 rfl) ?_
    refine jw_ifnull (tgt := 29) C dX4_canHaveChildren_13 (by decide) (fun hq3 => ?_) (fun hq3 => ?_)
    · replace hf := jm_ift hf hq3
      refine lv_iconst (v := 0) C.1 C.2.1 dX4_canHaveChildren_29 (by decide) ?_
      obtain ⟨u4, z4, hf⟩ := jm_rd_ok hf
      obtain ⟨rfl, rfl⟩ := jm_ret_ok hf
      exact jw_rz C hJ hS z4 (Nat.le_refl _) (Nat.le_refl _) dX4_canHaveChildren_30
    · replace hf := jm_iff hf hq3
      refine jw_aload_n C dX4_canHaveChildren_16 rfl (hl.at 0 rfl) ?_
      obtain ⟨v5, h5, hf⟩ := jm_rd_ok hf
      refine jw_gI (Cn := RX0) (T := TX0) (N := 4) C hJ h5 rfl inX4_canHaveChildren_X0 (by decide) (jm_w C 1 rfl) (fun _ h => h) dX4_canHaveChildren_17 ?_
      refine lv_bipush (v := (-8)) C.1 C.2.1 dX4_canHaveChildren_20 (by decide) ?_
      refine lv_icmp_ne (tgt := 29) C.1 C.2.1 dX4_canHaveChildren_22 (by decide) (fun hq6 => ?_) (fun hq6 => ?_)
      · replace hf := jm_iff hf hq6
        refine lv_iconst (v := 0) C.1 C.2.1 dX4_canHaveChildren_29 (by decide) ?_
        obtain ⟨u7, z7, hf⟩ := jm_rd_ok hf
        obtain ⟨rfl, rfl⟩ := jm_ret_ok hf
        exact jw_rz C hJ hS z7 (Nat.le_refl _) (Nat.le_refl _) dX4_canHaveChildren_30
      · replace hf := jm_ift hf hq6
        refine lv_iconst (v := 1) C.1 C.2.1 dX4_canHaveChildren_25 (by decide) ?_
        refine lv_goto (tgt := 30) C.1 C.2.1 dX4_canHaveChildren_26 (by decide) ?_
        obtain ⟨u8, z8, hf⟩ := jm_rd_ok hf
        obtain ⟨rfl, rfl⟩ := jm_ret_ok hf
        exact jw_rz C hJ hS z8 (Nat.le_refl _) (Nat.le_refl _) dX4_canHaveChildren_30
  · replace hf := jm_ift hf hq1
    refine lv_iconst (v := 1) C.1 C.2.1 dX4_canHaveChildren_4 (by decide) ?_
    obtain ⟨u9, z9, hf⟩ := jm_rd_ok hf
    obtain ⟨rfl, rfl⟩ := jm_ret_ok hf
    exact jw_rz C hJ hS z9 (Nat.le_refl _) (Nat.le_refl _) dX4_canHaveChildren_5
set_option maxHeartbeats 4000000 in
set_option maxRecDepth 100000 in
theorem cX4_canHaveChildren_C (l : Launch) (G : jm_G) (h0 : Nat) (x1 : Int32) {S Sf : jm_S} {rv : Int32} (hf : fX4_canHaveChildren h0 x1 S = some (rv, Sf)) : Met l yX4_canHaveChildren wsX4_canHaveChildren ({ frames := 1, cells := 0, slots := 0, locals := 25 } : Room) (jm_Pc G S [.ref h0, .int x1]) (jm_Q G (some (.int rv)) Sf) 0 0 (jm_A G) := by
  refine Met.ofW (cc := cX4_canHaveChildren) (maxL := 3) (ret := (some .boolean)) (by decide) rfl ?_
  intro p e s m args below meth c s₁ B hml hv
  obtain ⟨rfl, hJ, hX⟩ := hv
  have C : jm_C G cX4_canHaveChildren 3 RX4 wsX4_canHaveChildren ((some .boolean)) p s m _ meth c := ⟨B.exec, B.bytes, hml, findClass_of_methodNamed B.named, atoms_spec (ws := wsX4_canHaveChildren) B.pre, B.returns, B.notSynchronized, hX⟩
  obtain ⟨ls, he, hl⟩ := jm_entry m [.inr (some h0), .inl x1] (n := 3) (Nat.le_of_ble_eq_true rfl)
  have he : entryFrame m ([.ref h0, .int x1] : List Value).toArray 3 = F0 m 0 ls [] := he
  rw [he]
  exact kX4_canHaveChildren C h0 x1 hf hJ va_S.rf (hl.sub [0, 1] rfl)
end JG
