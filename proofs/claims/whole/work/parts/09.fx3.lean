section JG
variable {p : Program} {l : Launch} {e : Env} {s : State} {m : MethodId} {args : Array Value} {below : List Frame} {meth : Method} {c : Code} {G : jm_G}
/-! CoordinationService$Tree.size -/
def fX4_size_13 : Nat → Int32 → Option Nat → Int32 → Int32 → jm_P Int32
  | 0, _, _, _, _ => jm_no
  | n + 1, x1, x2, x3, x4 => (if x3 ≤ x4 then jm_ret x1 else jm_rd (jm_gq x2 2 x4) fun v4 => jm_rd (jm_gI v4 1 0) fun v5 => (if v5 = (-1) then fX4_size_13 n x1 x2 x3 (x4 + 1) else fX4_size_13 n (x1 + 1) x2 x3 (x4 + 1)))
def fX4_size (h0 : Nat) : jm_P Int32 := jm_rd (jm_gR (some h0) 5 1) fun v1 => jm_rd (jm_lq v1 2) fun v2 => fX4_size_13 4096 0 v1 v2 0
theorem inX4_size_X4 : ∀ w ∈ wsX40, w ∈ wsX4_size := fun _ h => List.mem_cons_of_mem _ (List.mem_append_left _ (List.mem_append_right _ h))
theorem inX4_size_X0 : ∀ w ∈ wsX00, w ∈ wsX4_size := fun _ h => List.mem_cons_of_mem _ (List.mem_append_right _ h)
theorem moX4_size_13 : ∀ (n : Nat) (x1 : Int32) (x2 : Option Nat) (x3 : Int32) (x4 : Int32), jm_Mo (fX4_size_13 n x1 x2 x3 x4) := by
  intro n
  induction n with
  | zero =>
    intro x1 x2 x3 x4
    rw [fX4_size_13]
    exact jm_Mo_no
  | succ n ih =>
    intro x1 x2 x3 x4
    rw [fX4_size_13]
    exact jm_Mo_if (jm_Mo_ret _) (jm_Mo_rd (fun _ => jm_Mo_rd (fun _ => jm_Mo_if (ih _ _ _ _) (ih _ _ _ _))))
set_option maxHeartbeats 4000000 in
set_option maxRecDepth 100000 in
theorem kX4_size_13 {rv : Int32} {Sf : jm_S} (C : jm_C G cX4_size 6 RX4 wsX4_size ((some .int)) p s m args meth c) : ∀ (n : Nat) (x1 : Int32) (x2 : Option Nat) (x3 : Int32) (x4 : Int32) {S : jm_S} {H : Heap} {locs : List Loc} {ls : Array Slot}, fX4_size_13 n x1 x2 x3 x4 S = some (rv, Sf) → jm_J G S H → va_S (jm_A G) s.heap H locs → jm_L ls 6 [(1, .inl x1), (2, .inr x2), (3, .inl x3), (4, .inl x4)] → W p l e ({ frames := 0, cells := 0, slots := 0, locals := 0 } : Room) s m args below meth c H locs 0 0 (MQ below (jm_Q G (some (.int rv)) Sf) args s 0 0 (jm_A G)) (F0 m 13 ls []) := by
  intro n
  induction n with
  | zero =>
    intro x1 x2 x3 x4 S H locs ls hf
    rw [fX4_size_13] at hf
    exact absurd hf (fun h => jm_no_ok h)
  | succ n ih =>
    intro x1 x2 x3 x4 S H locs ls hf hJ hS hl
    rw [fX4_size_13] at hf
    refine lv_iload C.1 C.2.1 dX4_size_13 (hl.at 3 rfl) ?_
    refine lv_iload_n C.1 C.2.1 dX4_size_15 rfl (hl.at 2 rfl) ?_
    refine lv_icmp_ge (tgt := 43) C.1 C.2.1 dX4_size_16 (by decide) (fun hq3 => ?_) (fun hq3 => ?_)
    · replace hf := jm_ift hf hq3
      refine lv_iload_n C.1 C.2.1 dX4_size_43 rfl (hl.at 0 rfl) ?_
      obtain ⟨rfl, rfl⟩ := jm_ret_ok hf
      exact jw_ri C hJ hS (Nat.le_refl _) (Nat.le_refl _) dX4_size_44
    · replace hf := jm_iff hf hq3
      refine jw_aload_n C dX4_size_19 rfl (hl.at 1 rfl) ?_
      refine lv_iload C.1 C.2.1 dX4_size_20 (hl.at 3 rfl) ?_
      obtain ⟨v4, h4, hf⟩ := jm_rd_ok hf
      refine jw_aaload C hJ h4 (by decide) rfl dX4_size_22 ?_
      refine jw_astore C dX4_size_23 hl (by decide) rfl (fun ls hl => ?_)
      refine jw_aload C dX4_size_25 (hl.at 0 rfl) ?_
      obtain ⟨v5, h5, hf⟩ := jm_rd_ok hf
      refine jw_gI (Cn := RX0) (T := TX0) (N := 4) C hJ h5 rfl inX4_size_X0 (by decide) (jm_w C 2 rfl) (fun _ h => h) dX4_size_27 ?_
      refine lv_iconst (v := (-1)) C.1 C.2.1 dX4_size_30 (by decide) ?_
      refine lv_icmp_eq (tgt := 37) C.1 C.2.1 dX4_size_31 (by decide) (fun hq6 => ?_) (fun hq6 => ?_)
      · replace hf := jm_ift hf hq6
        refine jw_iinc (v := x4 + 1) C 4 dX4_size_37 hl rfl (by rfl) (by decide) rfl (fun ls hl => ?_)
        refine lv_goto (tgt := 13) C.1 C.2.1 dX4_size_40 (by decide) ?_
        exact ih x1 x2 x3 (x4 + 1) hf hJ hS (hl.sub [2, 3, 4, 0] rfl)
      · replace hf := jm_iff hf hq6
        refine jw_iinc (v := x1 + 1) C 1 dX4_size_34 hl rfl (by rfl) (by decide) rfl (fun ls hl => ?_)
        refine jw_iinc (v := x4 + 1) C 4 dX4_size_37 hl rfl (by rfl) (by decide) rfl (fun ls hl => ?_)
        refine lv_goto (tgt := 13) C.1 C.2.1 dX4_size_40 (by decide) ?_
        exact ih (x1 + 1) x2 x3 (x4 + 1) hf hJ hS (hl.sub [1, 3, 4, 0] rfl)
theorem moX4_size (h0 : Nat) : jm_Mo (fX4_size h0) := by
  unfold fX4_size
  exact jm_Mo_rd (fun _ => jm_Mo_rd (fun _ => moX4_size_13 _ _ _ _ _))
set_option maxHeartbeats 4000000 in
set_option maxRecDepth 100000 in
theorem kX4_size {rv : Int32} {Sf : jm_S} (C : jm_C G cX4_size 6 RX4 wsX4_size ((some .int)) p s m args meth c) : ∀ (h0 : Nat) {S : jm_S} {H : Heap} {locs : List Loc} {ls : Array Slot}, fX4_size h0 S = some (rv, Sf) → jm_J G S H → va_S (jm_A G) s.heap H locs → jm_L ls 6 [(0, .inr (some h0))] → W p l e ({ frames := 0, cells := 0, slots := 0, locals := 0 } : Room) s m args below meth c H locs 0 0 (MQ below (jm_Q G (some (.int rv)) Sf) args s 0 0 (jm_A G)) (F0 m 0 ls []) := by
  intro h0 S H locs ls hf hJ hS hl
  unfold fX4_size at hf
  refine lv_iconst (v := 0) C.1 C.2.1 dX4_size_0 (by decide) ?_
  refine jw_istore_n C dX4_size_1 rfl hl (by decide) rfl (fun ls hl => ?_)
  refine jw_aload_n C dX4_size_2 rfl (hl.at 1 rfl) ?_
  obtain ⟨v1, h1, hf⟩ := jm_rd_ok hf
  refine jw_gR (Cn := RX4) (T := TX4) (N := 2) C hJ h1 rfl inX4_size_X4 (by decide) (jm_w C 1 rfl) (fun _ h => h) dX4_size_3 ?_
  refine jw_astore_n C dX4_size_6 rfl hl (by decide) rfl (fun ls hl => ?_)
  refine jw_aload_n C dX4_size_7 rfl (hl.at 0 rfl) ?_
  obtain ⟨v2, h2, hf⟩ := jm_rd_ok hf
  refine jw_lq C hJ hS h2 (by decide) rfl dX4_size_8 ?_
  refine jw_istore_n C dX4_size_9 rfl hl (by decide) rfl (fun ls hl => ?_)
  refine lv_iconst (v := 0) C.1 C.2.1 dX4_size_10 (by decide) ?_
  refine jw_istore C dX4_size_11 hl (by decide) rfl (fun ls hl => ?_)
  exact kX4_size_13 C 4096 0 v1 v2 0 hf hJ hS (hl.sub [3, 2, 1, 0] rfl)
set_option maxHeartbeats 4000000 in
set_option maxRecDepth 100000 in
theorem cX4_size_C (l : Launch) (G : jm_G) (h0 : Nat) {S Sf : jm_S} {rv : Int32} (hf : fX4_size h0 S = some (rv, Sf)) : Met l yX4_size wsX4_size ({ frames := 0, cells := 0, slots := 0, locals := 0 } : Room) (jm_Pc G S [.ref h0]) (jm_Q G (some (.int rv)) Sf) 0 0 (jm_A G) := by
  refine Met.ofW (cc := cX4_size) (maxL := 6) (ret := (some .int)) (by decide) rfl ?_
  intro p e s m args below meth c s₁ B hml hv
  obtain ⟨rfl, hJ, hX⟩ := hv
  have C : jm_C G cX4_size 6 RX4 wsX4_size ((some .int)) p s m _ meth c := ⟨B.exec, B.bytes, hml, findClass_of_methodNamed B.named, atoms_spec (ws := wsX4_size) B.pre, B.returns, B.notSynchronized, hX⟩
  obtain ⟨ls, he, hl⟩ := jm_entry m [.inr (some h0)] (n := 6) (Nat.le_of_ble_eq_true rfl)
  have he : entryFrame m ([.ref h0] : List Value).toArray 6 = F0 m 0 ls [] := he
  rw [he]
  exact kX4_size C h0 hf hJ va_S.rf (hl.sub [0] rfl)
/-! CoordinationService$Transaction.<init> -/
def fX3_init (h0 : Nat) (x1 : Int32) (x2 : Int32) (x3 : Int32) (x4 : Int32) (x5 : Int32) : jm_P Unit := jm_rd (jm_nn (some h0)) fun _ => jm_wr (jm_p (some h0) 4 0 (.inl x1)) <| jm_wr (jm_p (some h0) 4 1 (.inl x2)) <| jm_wr (jm_p (some h0) 4 2 (.inl x3)) <| jm_wr (jm_p (some h0) 4 3 (.inl x4)) <| jm_wr (jm_p (some h0) 4 4 (.inl x5)) <| jm_ret ()
theorem inX3_init_X3 : ∀ w ∈ wsX30, w ∈ wsX3_init := fun _ h => List.mem_cons_of_mem _ (List.mem_append_right _ h)
theorem moX3_init (h0 : Nat) (x1 : Int32) (x2 : Int32) (x3 : Int32) (x4 : Int32) (x5 : Int32) : jm_Mo (fX3_init h0 x1 x2 x3 x4 x5) := by
  unfold fX3_init
  exact jm_Mo_rd (fun _ => jm_Mo_wr jm_p_st (jm_Mo_wr jm_p_st (jm_Mo_wr jm_p_st (jm_Mo_wr jm_p_st (jm_Mo_wr jm_p_st (jm_Mo_ret _))))))
set_option maxHeartbeats 4000000 in
set_option maxRecDepth 100000 in
theorem kX3_init {rv : Unit} {Sf : jm_S} (C : jm_C G cX3_init 6 RX3 wsX3_init (none) p s m args meth c) (hi : meth.name = "<init>") : ∀ (h0 : Nat) (x1 : Int32) (x2 : Int32) (x3 : Int32) (x4 : Int32) (x5 : Int32) {S : jm_S} {H : Heap} {locs : List Loc} {ls : Array Slot}, fX3_init h0 x1 x2 x3 x4 x5 S = some (rv, Sf) → jm_J G S H → va_S (jm_A G) s.heap H locs → jm_L ls 6 [(0, .inr (some h0)), (1, .inl x1), (2, .inl x2), (3, .inl x3), (4, .inl x4), (5, .inl x5)] → W p l e ({ frames := 1, cells := 0, slots := 0, locals := 20 } : Room) s m args below meth c H locs 0 0 (MQ below (jm_Q G (none) Sf) args s 0 0 (jm_A G)) (F0 m 0 ls []) := by
  intro h0 x1 x2 x3 x4 x5 S H locs ls hf hJ hS hl
  unfold fX3_init at hf
  refine jw_aload_n C dX3_init_0 rfl (hl.at 0 rfl) ?_
  obtain ⟨u1, h1, hf⟩ := jm_rd_ok hf
  refine jw_objInit C h1 hl.1 (jm_w C 1 rfl) (jm_w C 2 rfl) (jm_w C 3 rfl) dX3_init_1 (Nat.le_of_ble_eq_true rfl) (Nat.le_of_ble_eq_true rfl) (Nat.le_of_ble_eq_true rfl) ?_
  refine jw_aload_n C dX3_init_4 rfl (hl.at 0 rfl) ?_
  refine lv_iload_n C.1 C.2.1 dX3_init_5 rfl (hl.at 1 rfl) ?_
  obtain ⟨S2, h2, hf⟩ := jm_wr_ok hf
  refine jw_pF (x := .inl x1) (ty := .int) (Cn := RX3) (T := TX3) (N := 5) C hJ hS h2 rfl inX3_init_X3 tyX3 tyX3_ok nmX3 (by decide) (jm_w C 4 rfl) (fun _ h => h) rfl hi rfl (by decide +kernel) rfl rfl dX3_init_6 (fun H locs hJ hS => ?_)
  refine jw_aload_n C dX3_init_9 rfl (hl.at 0 rfl) ?_
  refine lv_iload_n C.1 C.2.1 dX3_init_10 rfl (hl.at 2 rfl) ?_
  obtain ⟨S3, h3, hf⟩ := jm_wr_ok hf
  refine jw_pF (x := .inl x2) (ty := .int) (Cn := RX3) (T := TX3) (N := 5) C hJ hS h3 rfl inX3_init_X3 tyX3 tyX3_ok nmX3 (by decide) (jm_w C 5 rfl) (fun _ h => h) rfl hi rfl (by decide +kernel) rfl rfl dX3_init_11 (fun H locs hJ hS => ?_)
  refine jw_aload_n C dX3_init_14 rfl (hl.at 0 rfl) ?_
  refine lv_iload_n C.1 C.2.1 dX3_init_15 rfl (hl.at 3 rfl) ?_
  obtain ⟨S4, h4, hf⟩ := jm_wr_ok hf
  refine jw_pF (x := .inl x3) (ty := .int) (Cn := RX3) (T := TX3) (N := 5) C hJ hS h4 rfl inX3_init_X3 tyX3 tyX3_ok nmX3 (by decide) (jm_w C 6 rfl) (fun _ h => h) rfl hi rfl (by decide +kernel) rfl rfl dX3_init_16 (fun H locs hJ hS => ?_)
  refine jw_aload_n C dX3_init_19 rfl (hl.at 0 rfl) ?_
  refine lv_iload C.1 C.2.1 dX3_init_20 (hl.at 4 rfl) ?_
  obtain ⟨S5, h5, hf⟩ := jm_wr_ok hf
  refine jw_pF (x := .inl x4) (ty := .int) (Cn := RX3) (T := TX3) (N := 5) C hJ hS h5 rfl inX3_init_X3 tyX3 tyX3_ok nmX3 (by decide) (jm_w C 7 rfl) (fun _ h => h) rfl hi rfl (by decide +kernel) rfl rfl dX3_init_22 (fun H locs hJ hS => ?_)
  refine jw_aload_n C dX3_init_25 rfl (hl.at 0 rfl) ?_
  refine lv_iload C.1 C.2.1 dX3_init_26 (hl.at 5 rfl) ?_
  obtain ⟨S6, h6, hf⟩ := jm_wr_ok hf
  refine jw_pF (x := .inl x5) (ty := .int) (Cn := RX3) (T := TX3) (N := 5) C hJ hS h6 rfl inX3_init_X3 tyX3 tyX3_ok nmX3 (by decide) (jm_w C 8 rfl) (fun _ h => h) rfl hi rfl (by decide +kernel) rfl rfl dX3_init_28 (fun H locs hJ hS => ?_)
  obtain ⟨rfl, rfl⟩ := jm_ret_ok hf
  exact jw_rv C hJ hS (Nat.le_refl _) (Nat.le_refl _) dX3_init_31
set_option maxHeartbeats 4000000 in
set_option maxRecDepth 100000 in
theorem cX3_init_C (l : Launch) (G : jm_G) (h0 : Nat) (x1 : Int32) (x2 : Int32) (x3 : Int32) (x4 : Int32) (x5 : Int32) {S Sf : jm_S} {rv : Unit} (hf : fX3_init h0 x1 x2 x3 x4 x5 S = some (rv, Sf)) : Met l yX3_init wsX3_init ({ frames := 1, cells := 0, slots := 0, locals := 20 } : Room) (jm_Pc G S [.ref h0, .int x1, .int x2, .int x3, .int x4, .int x5]) (jm_Q G (none) Sf) 0 0 (jm_A G) := by
  refine Met.ofW (cc := cX3_init) (maxL := 6) (ret := none) (by decide) rfl ?_
  intro p e s m args below meth c s₁ B hml hv
  obtain ⟨rfl, hJ, hX⟩ := hv
  have C : jm_C G cX3_init 6 RX3 wsX3_init (none) p s m _ meth c := ⟨B.exec, B.bytes, hml, findClass_of_methodNamed B.named, atoms_spec (ws := wsX3_init) B.pre, B.returns, B.notSynchronized, hX⟩
  have hi : meth.name = "<init>" := (name_of_methodNamed B.named B.method).1
  obtain ⟨ls, he, hl⟩ := jm_entry m [.inr (some h0), .inl x1, .inl x2, .inl x3, .inl x4, .inl x5] (n := 6) (Nat.le_of_ble_eq_true rfl)
  have he : entryFrame m ([.ref h0, .int x1, .int x2, .int x3, .int x4, .int x5] : List Value).toArray 6 = F0 m 0 ls [] := he
  rw [he]
  exact kX3_init C hi h0 x1 x2 x3 x4 x5 hf hJ va_S.rf (hl.sub [0, 1, 2, 3, 4, 5] rfl)
/-! CoordinationService.propose -/
def fX7_propose (h0 : Nat) (x1 : Int32) (x2 : Int32) (x3 : Int32) (x4 : Int32) : jm_P Int32 := jm_rd (jm_gR (some h0) 8 6) fun v1 => (if v1 = none then jm_ret (-2) else jm_rd (jm_gR (some h0) 8 6) fun v3 => jm_rd (jm_gR v3 2 2) fun v4 => jm_rd (jm_o v4 0) fun a5 => jm_bd (fJx4a65c_size_8abf5 a5) fun v5 => (if v5 < 40 then jm_rd (jm_gI (some h0) 8 8) fun v7 => jm_wr (jm_p (some h0) 8 8 (.inl (v7 + 1))) <| jm_rd (jm_gI (some h0) 8 7) fun v9 => jm_rd (jm_gI (some h0) 8 8) fun v10 => jm_bd (jm_new 4 [.inl 0, .inl 0, .inl 0, .inl 0, .inl 0]) fun q11 => jm_bd (fX3_init q11 ((1000 * v9) + v10) x1 x2 x3 x4) fun _ => jm_rd (jm_gR (some h0) 8 6) fun v13 => jm_rd (jm_gR v13 2 2) fun v14 => jm_rd (jm_o v14 0) fun a15 => jm_bd (fJx4a65c_add_9ea2d a15 (some q11)) fun v15 => jm_rd (jm_gR (some h0) 8 3) fun v16 => jm_rd (jm_gR (some h0) 8 2) fun v17 => jm_rd (jm_o v16 5) fun a18 => jm_bd (fX4_carryOut a18 (some q11) v17) fun _ => jm_ret ((1000 * v9) + v10) else jm_ret (-7)))
theorem inX7_propose_X7 : ∀ w ∈ wsX70, w ∈ wsX7_propose := fun _ h => List.mem_cons_of_mem _ (List.mem_append_left _ (List.mem_append_left _ (List.mem_append_left _ (List.mem_append_left _ (List.mem_append_left _ (List.mem_append_left _ (List.mem_append_left _ (List.mem_append_left _ (List.mem_append_right _ h)))))))))
theorem inX7_propose_X1 : ∀ w ∈ wsX10, w ∈ wsX7_propose := fun _ h => List.mem_cons_of_mem _ (List.mem_append_left _ (List.mem_append_left _ (List.mem_append_left _ (List.mem_append_left _ (List.mem_append_left _ (List.mem_append_left _ (List.mem_append_left _ (List.mem_append_right _ h))))))))
theorem inX7_propose_X3 : ∀ w ∈ wsX30, w ∈ wsX7_propose := fun _ h => List.mem_cons_of_mem _ (List.mem_append_left _ (List.mem_append_left _ (List.mem_append_left _ (List.mem_append_left _ (List.mem_append_left _ (List.mem_append_left _ (List.mem_append_right _ h)))))))
theorem moX7_propose (h0 : Nat) (x1 : Int32) (x2 : Int32) (x3 : Int32) (x4 : Int32) : jm_Mo (fX7_propose h0 x1 x2 x3 x4) := by
  unfold fX7_propose
  exact jm_Mo_rd (fun _ => jm_Mo_if (jm_Mo_ret _) (jm_Mo_rd (fun _ => jm_Mo_rd (fun _ => jm_Mo_rd (fun _ => jm_Mo_bd (moJx4a65c_size_8abf5 _) (fun _ => jm_Mo_if (jm_Mo_rd (fun _ => jm_Mo_wr jm_p_st (jm_Mo_rd (fun _ => jm_Mo_rd (fun _ => jm_Mo_bd jm_Mo_new (fun _ => jm_Mo_bd (moX3_init _ _ _ _ _ _) (fun _ => jm_Mo_rd (fun _ => jm_Mo_rd (fun _ => jm_Mo_rd (fun _ => jm_Mo_bd (moJx4a65c_add_9ea2d _ _) (fun _ => jm_Mo_rd (fun _ => jm_Mo_rd (fun _ => jm_Mo_rd (fun _ => jm_Mo_bd (moX4_carryOut _ _ _) (fun _ => jm_Mo_ret _))))))))))))))) (jm_Mo_ret _)))))))
set_option maxHeartbeats 4000000 in
set_option maxRecDepth 100000 in
theorem kX7_propose {rv : Int32} {Sf : jm_S} (C : jm_C G cX7_propose 7 RX7 wsX7_propose ((some .int)) p s m args meth c) {n0 m0 mc ms : Nat} (hr1 : Sf.2.1 ≤ n0 + mc) (hr2 : Sf.2.2.1 ≤ m0 + ms) : ∀ (h0 : Nat) (x1 : Int32) (x2 : Int32) (x3 : Int32) (x4 : Int32) {S : jm_S} {H : Heap} {locs : List Loc} {ls : Array Slot} {cells slots : Nat}, fX7_propose h0 x1 x2 x3 x4 S = some (rv, Sf) → jm_J G S H → va_S (jm_A G) s.heap H locs → jm_L ls 7 [(0, .inr (some h0)), (1, .inl x1), (2, .inl x2), (3, .inl x3), (4, .inl x4)] → cells + n0 ≤ S.2.1 → slots + m0 ≤ S.2.2.1 → W p l e ({ frames := 7, cells := mc, slots := ms, locals := 171 } : Room) s m args below meth c H locs cells slots (MQ below (jm_Q G (some (.int rv)) Sf) args s mc ms (jm_A G)) (F0 m 0 ls []) := by
  intro h0 x1 x2 x3 x4 S H locs ls cells slots hf hJ hS hl hc1 hc2
  unfold fX7_propose at hf
  refine jw_aload_n C dX7_propose_0 rfl (hl.at 0 rfl) ?_
  obtain ⟨v1, h1, hf⟩ := jm_rd_ok hf
  refine jw_gR (Cn := RX7) (T := TX7) (N := 12) C hJ h1 rfl inX7_propose_X7 (by decide) (jm_w C 1 rfl) (fun _ h => h) dX7_propose_1 ?_
  refine jw_ifnonnull (tgt := 10) C dX7_propose_4 (by decide) (fun hq2 => ?_) (fun hq2 => ?_)
  · replace hf := jm_iff hf hq2
    refine jw_aload_n C dX7_propose_10 rfl (hl.at 0 rfl) ?_
    obtain ⟨v3, h3, hf⟩ := jm_rd_ok hf
    refine jw_gR (Cn := RX7) (T := TX7) (N := 12) C hJ h3 rfl inX7_propose_X7 (by decide) (jm_w C 1 rfl) (fun _ h => h) dX7_propose_11 ?_
    obtain ⟨v4, h4, hf⟩ := jm_rd_ok hf
    refine jw_gR (Cn := RX1) (T := TX1) (N := 7) C hJ h4 rfl inX7_propose_X1 (by decide) (jm_w C 2 rfl) (fun _ h => h) dX7_propose_14 ?_
    obtain ⟨a5, o5, hf⟩ := jm_rd_ok hf
    obtain ⟨v5, S5, h5, hf⟩ := jm_bd_ok hf
    have e5 := moJx4a65c_size_8abf5 a5 _ _ _ h5
    have g5 := jm_mo hf (jm_Mo_if (jm_Mo_rd (fun _ => jm_Mo_wr jm_p_st (jm_Mo_rd (fun _ => jm_Mo_rd (fun _ => jm_Mo_bd jm_Mo_new (fun _ => jm_Mo_bd (moX3_init _ _ _ _ _ _) (fun _ => jm_Mo_rd (fun _ => jm_Mo_rd (fun _ => jm_Mo_rd (fun _ => jm_Mo_bd (moJx4a65c_add_9ea2d _ _) (fun _ => jm_Mo_rd (fun _ => jm_Mo_rd (fun _ => jm_Mo_rd (fun _ => jm_Mo_bd (moX4_carryOut _ _ _) (fun _ => jm_Mo_ret _))))))))))))))) (jm_Mo_ret _))
    refine jw_cV (q := (RJx4a65c, TJx4a65c, 3)) C hJ hS o5 rfl (cJx4a65c_size_8abf5_C l G a5 h5) (cwV 0 C.2.2.2.2.1 gX7_propose_Jx4a65c_size_8abf5 rfl rfl rfl (by decide +kernel) ⟨Nat.le_of_ble_eq_true rfl, Nat.le_of_ble_eq_true rfl⟩) rfl hl.1 rfl (Nat.le_of_ble_eq_true rfl) dX7_propose_17 ⟨by show cells + 0 ≤ mc; omega, by show slots + 0 ≤ ms; omega⟩ (fun H locs hJ hS => ?_)
    replace hc1 : cells + 0 + n0 ≤ S5.2.1 := by omega
    replace hc2 : slots + 0 + m0 ≤ S5.2.2.1 := by omega
    generalize cells + 0 = cells at hc1 ⊢
    generalize slots + 0 = slots at hc2 ⊢
    refine lv_bipush (v := 40) C.1 C.2.1 dX7_propose_20 (by decide) ?_
    refine lv_icmp_lt (tgt := 28) C.1 C.2.1 dX7_propose_22 (by decide) (fun hq6 => ?_) (fun hq6 => ?_)
    · replace hf := jm_ift hf hq6
      refine jw_aload_n C dX7_propose_28 rfl (hl.at 0 rfl) ?_
      refine lv_dup C.1 C.2.1 dX7_propose_29 (jm_catr _) ?_
      obtain ⟨v7, h7, hf⟩ := jm_rd_ok hf
      refine jw_gI (Cn := RX7) (T := TX7) (N := 12) C hJ h7 rfl inX7_propose_X7 (by decide) (jm_w C 3 rfl) (fun _ h => h) dX7_propose_30 ?_
      refine lv_iconst (v := 1) C.1 C.2.1 dX7_propose_33 (by decide) ?_
      refine lv_iadd C.1 C.2.1 dX7_propose_34 ?_
      obtain ⟨S8, h8, hf⟩ := jm_wr_ok hf
      have e8 := jm_p_st _ _ h8
      rw [← e8] at hc1 hc2
      refine jw_p (x := .inl (v7 + 1)) (ty := .int) (Cn := RX7) (T := TX7) (N := 12) C hJ hS h8 rfl inX7_propose_X7 tyX7 tyX7_ok nmX7 (by decide) (jm_w C 3 rfl) (fun _ h => h) rfl (by decide +kernel) rfl rfl dX7_propose_35 (fun H locs hJ hS => ?_)
      refine lv_sipush (v := 1000) C.1 C.2.1 dX7_propose_38 (by decide) ?_
      refine jw_aload_n C dX7_propose_41 rfl (hl.at 0 rfl) ?_
      obtain ⟨v9, h9, hf⟩ := jm_rd_ok hf
      refine jw_gI (Cn := RX7) (T := TX7) (N := 12) C hJ h9 rfl inX7_propose_X7 (by decide) (jm_w C 4 rfl) (fun _ h => h) dX7_propose_42 ?_
      refine lv_imul C.1 C.2.1 dX7_propose_45 ?_
      refine jw_aload_n C dX7_propose_46 rfl (hl.at 0 rfl) ?_
      obtain ⟨v10, h10, hf⟩ := jm_rd_ok hf
      refine jw_gI (Cn := RX7) (T := TX7) (N := 12) C hJ h10 rfl inX7_propose_X7 (by decide) (jm_w C 3 rfl) (fun _ h => h) dX7_propose_47 ?_
      refine lv_iadd C.1 C.2.1 dX7_propose_50 ?_
      refine jw_istore C dX7_propose_51 hl (by decide) rfl (fun ls hl => ?_)
      obtain ⟨q11, S11, h11, hf⟩ := jm_bd_ok hf
      have e11 := jm_new_st h11
      have g11 := jm_mo hf (jm_Mo_bd (moX3_init _ _ _ _ _ _) (fun _ => jm_Mo_rd (fun _ => jm_Mo_rd (fun _ => jm_Mo_rd (fun _ => jm_Mo_bd (moJx4a65c_add_9ea2d _ _) (fun _ => jm_Mo_rd (fun _ => jm_Mo_rd (fun _ => jm_Mo_rd (fun _ => jm_Mo_bd (moX4_carryOut _ _ _) (fun _ => jm_Mo_ret _))))))))))
      simp only [List.length_cons, List.length_nil] at e11
      refine jw_new (Cn := RX3) (T := TX3) (N := 5) C hJ hS h11 rfl inX7_propose_X3 tyX3 tyX3_ok (by decide +kernel) rfl (jm_w C 5 rfl) (jm_w C 6 rfl) (jm_w C 7 rfl) (by show cells + 1 ≤ mc; omega) (by show slots + 5 ≤ ms; omega) dX7_propose_53 (fun H hJ hS => ?_)
      replace hc1 : cells + 1 + n0 ≤ S11.2.1 := by omega
      replace hc2 : slots + 5 + m0 ≤ S11.2.2.1 := by omega
      generalize cells + 1 = cells at hc1 ⊢
      generalize slots + 5 = slots at hc2 ⊢
      refine lv_dup C.1 C.2.1 dX7_propose_56 (jm_catr _) ?_
      refine lv_iload C.1 C.2.1 dX7_propose_57 (hl.at 0 rfl) ?_
      refine lv_iload_n C.1 C.2.1 dX7_propose_59 rfl (hl.at 2 rfl) ?_
      refine lv_iload_n C.1 C.2.1 dX7_propose_60 rfl (hl.at 3 rfl) ?_
      refine lv_iload_n C.1 C.2.1 dX7_propose_61 rfl (hl.at 4 rfl) ?_
      refine lv_iload C.1 C.2.1 dX7_propose_62 (hl.at 5 rfl) ?_
      obtain ⟨v12, S12, h12, hf⟩ := jm_bd_ok hf
      have e12 := moX3_init q11 ((1000 * v9) + v10) x1 x2 x3 x4 _ _ _ h12
      have g12 := jm_mo hf (jm_Mo_rd (fun _ => jm_Mo_rd (fun _ => jm_Mo_rd (fun _ => jm_Mo_bd (moJx4a65c_add_9ea2d _ _) (fun _ => jm_Mo_rd (fun _ => jm_Mo_rd (fun _ => jm_Mo_rd (fun _ => jm_Mo_bd (moX4_carryOut _ _ _) (fun _ => jm_Mo_ret _)))))))))
      refine jw_cI C hJ hS (cX3_init_C l G q11 ((1000 * v9) + v10) x1 x2 x3 x4 h12) (cwI 5 C.2.2.2.2.1 gX7_propose_X3_init rfl rfl rfl (jm_w C 7 rfl) (jm_w C 16 rfl) (jm_w C 17 rfl) rfl (by decide +kernel) ⟨Nat.le_of_ble_eq_true rfl, Nat.le_of_ble_eq_true rfl⟩) rfl hl.1 rfl (Nat.le_of_ble_eq_true rfl) dX7_propose_64 ⟨by show cells + 0 ≤ mc; omega, by show slots + 0 ≤ ms; omega⟩ (fun H locs hJ hS => ?_)
      replace hc1 : cells + 0 + n0 ≤ S12.2.1 := by omega
      replace hc2 : slots + 0 + m0 ≤ S12.2.2.1 := by omega
      generalize cells + 0 = cells at hc1 ⊢
      generalize slots + 0 = slots at hc2 ⊢
      refine jw_astore C dX7_propose_67 hl (by decide) rfl (fun ls hl => ?_)
      refine jw_aload_n C dX7_propose_69 rfl (hl.at 2 rfl) ?_
      obtain ⟨v13, h13, hf⟩ := jm_rd_ok hf
      refine jw_gR (Cn := RX7) (T := TX7) (N := 12) C hJ h13 rfl inX7_propose_X7 (by decide) (jm_w C 1 rfl) (fun _ h => h) dX7_propose_70 ?_
      obtain ⟨v14, h14, hf⟩ := jm_rd_ok hf
      refine jw_gR (Cn := RX1) (T := TX1) (N := 7) C hJ h14 rfl inX7_propose_X1 (by decide) (jm_w C 2 rfl) (fun _ h => h) dX7_propose_73 ?_
      refine jw_aload C dX7_propose_76 (hl.at 0 rfl) ?_
      obtain ⟨a15, o15, hf⟩ := jm_rd_ok hf
      obtain ⟨v15, S15, h15, hf⟩ := jm_bd_ok hf
      have e15 := moJx4a65c_add_9ea2d a15 (some q11) _ _ _ h15
      have g15 := jm_mo hf (jm_Mo_rd (fun _ => jm_Mo_rd (fun _ => jm_Mo_rd (fun _ => jm_Mo_bd (moX4_carryOut _ _ _) (fun _ => jm_Mo_ret _)))))
      refine jw_cV (q := (RJx4a65c, TJx4a65c, 3)) C hJ hS o15 rfl (cJx4a65c_add_9ea2d_C l G a15 (some q11) h15 (S15.2.1 - S12.2.1) (S15.2.2.1 - S12.2.2.1) (by omega) (by omega)) (cwV 1 C.2.2.2.2.1 gX7_propose_Jx4a65c_add_9ea2d rfl rfl rfl (by decide +kernel) ⟨Nat.le_of_ble_eq_true rfl, Nat.le_of_ble_eq_true rfl⟩) rfl hl.1 rfl (Nat.le_of_ble_eq_true rfl) dX7_propose_78 ⟨by show cells + _ ≤ mc; omega, by show slots + _ ≤ ms; omega⟩ (fun H locs hJ hS => ?_)
      replace hc1 : cells + (S15.2.1 - S12.2.1) + n0 ≤ S15.2.1 := by omega
      replace hc2 : slots + (S15.2.2.1 - S12.2.2.1) + m0 ≤ S15.2.2.1 := by omega
      generalize cells + (S15.2.1 - S12.2.1) = cells at hc1 ⊢
      generalize slots + (S15.2.2.1 - S12.2.2.1) = slots at hc2 ⊢
      refine lv_pop C.1 C.2.1 dX7_propose_81 rfl ?_
      refine jw_aload_n C dX7_propose_82 rfl (hl.at 2 rfl) ?_
      obtain ⟨v16, h16, hf⟩ := jm_rd_ok hf
      refine jw_gR (Cn := RX7) (T := TX7) (N := 12) C hJ h16 rfl inX7_propose_X7 (by decide) (jm_w C 8 rfl) (fun _ h => h) dX7_propose_83 ?_
      refine jw_aload C dX7_propose_86 (hl.at 0 rfl) ?_
      refine jw_aload_n C dX7_propose_88 rfl (hl.at 2 rfl) ?_
      obtain ⟨v17, h17, hf⟩ := jm_rd_ok hf
      refine jw_gR (Cn := RX7) (T := TX7) (N := 12) C hJ h17 rfl inX7_propose_X7 (by decide) (jm_w C 9 rfl) (fun _ h => h) dX7_propose_89 ?_
      obtain ⟨a18, o18, hf⟩ := jm_rd_ok hf
      obtain ⟨v18, S18, h18, hf⟩ := jm_bd_ok hf
      have e18 := moX4_carryOut a18 (some q11) v17 _ _ _ h18
      have g18 := jm_mo hf (jm_Mo_ret _)
      refine jw_cV (q := (RX4, TX4, 2)) C hJ hS o18 rfl (cX4_carryOut_C l G a18 (some q11) v17 h18) (cwV 2 C.2.2.2.2.1 gX7_propose_X4_carryOut rfl rfl rfl (by decide +kernel) ⟨Nat.le_of_ble_eq_true rfl, Nat.le_of_ble_eq_true rfl⟩) rfl hl.1 rfl (Nat.le_of_ble_eq_true rfl) dX7_propose_92 ⟨by show cells + 0 ≤ mc; omega, by show slots + 0 ≤ ms; omega⟩ (fun H locs hJ hS => ?_)
      replace hc1 : cells + 0 + n0 ≤ S18.2.1 := by omega
      replace hc2 : slots + 0 + m0 ≤ S18.2.2.1 := by omega
      generalize cells + 0 = cells at hc1 ⊢
      generalize slots + 0 = slots at hc2 ⊢
      refine lv_iload C.1 C.2.1 dX7_propose_95 (hl.at 1 rfl) ?_
      obtain ⟨rfl, rfl⟩ := jm_ret_ok hf
      exact jw_ri C hJ hS (by omega) (by omega) dX7_propose_97
    · replace hf := jm_iff hf hq6
      refine lv_bipush (v := (-7)) C.1 C.2.1 dX7_propose_25 (by decide) ?_
      obtain ⟨rfl, rfl⟩ := jm_ret_ok hf
      exact jw_ri C hJ hS (by omega) (by omega) dX7_propose_27
  · replace hf := jm_ift hf hq2
    refine lv_bipush (v := (-2)) C.1 C.2.1 dX7_propose_7 (by decide) ?_
    obtain ⟨rfl, rfl⟩ := jm_ret_ok hf
    exact jw_ri C hJ hS (by omega) (by omega) dX7_propose_9
set_option maxHeartbeats 4000000 in
set_option maxRecDepth 100000 in
theorem cX7_propose_C (l : Launch) (G : jm_G) (h0 : Nat) (x1 : Int32) (x2 : Int32) (x3 : Int32) (x4 : Int32) {S Sf : jm_S} {rv : Int32} (hf : fX7_propose h0 x1 x2 x3 x4 S = some (rv, Sf)) (mc ms : Nat) (hr1 : Sf.2.1 ≤ S.2.1 + mc) (hr2 : Sf.2.2.1 ≤ S.2.2.1 + ms) : Met l yX7_propose wsX7_propose ({ frames := 7, cells := mc, slots := ms, locals := 171 } : Room) (jm_Pc G S [.ref h0, .int x1, .int x2, .int x3, .int x4]) (jm_Q G (some (.int rv)) Sf) mc ms (jm_A G) := by
  refine Met.ofW (cc := cX7_propose) (maxL := 7) (ret := (some .int)) (by decide) rfl ?_
  intro p e s m args below meth c s₁ B hml hv
  obtain ⟨rfl, hJ, hX⟩ := hv
  have C : jm_C G cX7_propose 7 RX7 wsX7_propose ((some .int)) p s m _ meth c := ⟨B.exec, B.bytes, hml, findClass_of_methodNamed B.named, atoms_spec (ws := wsX7_propose) B.pre, B.returns, B.notSynchronized, hX⟩
  obtain ⟨ls, he, hl⟩ := jm_entry m [.inr (some h0), .inl x1, .inl x2, .inl x3, .inl x4] (n := 7) (Nat.le_of_ble_eq_true rfl)
  have he : entryFrame m ([.ref h0, .int x1, .int x2, .int x3, .int x4] : List Value).toArray 7 = F0 m 0 ls [] := he
  rw [he]
  exact kX7_propose C (n0 := S.2.1) (m0 := S.2.2.1) hr1 hr2 h0 x1 x2 x3 x4 hf hJ va_S.rf (hl.sub [0, 1, 2, 3, 4] rfl) (by omega) (by omega)
/-! CoordinationService.create -/
def fX7_create_23 (h0 : Nat) (x1 : Int32) (x2 : Int32) : jm_P Int32 := jm_rd (jm_gR (some h0) 8 6) fun v4 => (if v4 = none then jm_ret (-2) else jm_rd (jm_gR (some h0) 8 6) fun v6 => jm_rd (jm_o v6 2) fun a7 => jm_bd (fX1_hasClosed a7 x2) fun v7 => (if v7 = 0 then jm_rd (jm_gI (some h0) 8 10) fun v9 => (if v9 = 0 then jm_ret (-4) else jm_rd (jm_gR (some h0) 8 3) fun v11 => jm_rd (jm_gI (some h0) 8 10) fun v12 => jm_rd (jm_o v11 5) fun a13 => jm_bd (fX4_find a13 v12) fun v13 => (if v13 = none then jm_rd (jm_gR (some h0) 8 3) fun v15 => jm_rd (jm_gI (some h0) 8 10) fun v16 => jm_bd (fX7_parentOf v16) fun v17 => jm_rd (jm_o v15 5) fun a18 => jm_bd (fX4_canHaveChildren a18 v17) fun v18 => (if v18 = 0 then jm_ret (-3) else jm_rd (jm_gR (some h0) 8 3) fun v20 => jm_rd (jm_o v20 5) fun a21 => jm_bd (fX4_size a21) fun v21 => (if v21 < 12 then jm_rd (jm_gI (some h0) 8 10) fun v23 => jm_rd (jm_o (some h0) 8) fun a24 => jm_bd (fX7_propose a24 0 v23 x1 x2) fun v24 => jm_ret v24 else jm_ret (-7))) else jm_ret (-4))) else jm_ret (-2)))
def fX7_create (h0 : Nat) (x1 : Int32) (x2 : Int32) : jm_P Int32 := jm_bd (fX7_isData x1) fun v1 => (if v1 = 0 then jm_ret (-1) else (if x2 = (-8) then fX7_create_23 h0 x1 x2 else jm_rd (jm_o (some h0) 8) fun a25 => jm_bd (fX7_findSession a25 x2) fun v25 => (if v25 = none then jm_ret (-1) else fX7_create_23 h0 x1 x2)))
theorem inX7_create_X7 : ∀ w ∈ wsX70, w ∈ wsX7_create := fun _ h => List.mem_cons_of_mem _ (List.mem_append_left _ (List.mem_append_left _ (List.mem_append_left _ (List.mem_append_left _ (List.mem_append_left _ (List.mem_append_left _ (List.mem_append_left _ (List.mem_append_left _ (List.mem_append_right _ h)))))))))
theorem moX7_create_23 (h0 : Nat) (x1 : Int32) (x2 : Int32) : jm_Mo (fX7_create_23 h0 x1 x2) := by
  unfold fX7_create_23
  exact jm_Mo_rd (fun _ => jm_Mo_if (jm_Mo_ret _) (jm_Mo_rd (fun _ => jm_Mo_rd (fun _ => jm_Mo_bd (moX1_hasClosed _ _) (fun _ => jm_Mo_if (jm_Mo_rd (fun _ => jm_Mo_if (jm_Mo_ret _) (jm_Mo_rd (fun _ => jm_Mo_rd (fun _ => jm_Mo_rd (fun _ => jm_Mo_bd (moX4_find _ _) (fun _ => jm_Mo_if (jm_Mo_rd (fun _ => jm_Mo_rd (fun _ => jm_Mo_bd (moX7_parentOf _) (fun _ => jm_Mo_rd (fun _ => jm_Mo_bd (moX4_canHaveChildren _ _) (fun _ => jm_Mo_if (jm_Mo_ret _) (jm_Mo_rd (fun _ => jm_Mo_rd (fun _ => jm_Mo_bd (moX4_size _) (fun _ => jm_Mo_if (jm_Mo_rd (fun _ => jm_Mo_rd (fun _ => jm_Mo_bd (moX7_propose _ _ _ _ _) (fun _ => jm_Mo_ret _)))) (jm_Mo_ret _))))))))))) (jm_Mo_ret _)))))))) (jm_Mo_ret _))))))
set_option maxHeartbeats 4000000 in
set_option maxRecDepth 100000 in
theorem kX7_create_23 {rv : Int32} {Sf : jm_S} (C : jm_C G cX7_create 3 RX7 wsX7_create ((some .int)) p s m args meth c) {n0 m0 mc ms : Nat} (hr1 : Sf.2.1 ≤ n0 + mc) (hr2 : Sf.2.2.1 ≤ m0 + ms) : ∀ (h0 : Nat) (x1 : Int32) (x2 : Int32) {S : jm_S} {H : Heap} {locs : List Loc} {ls : Array Slot} {cells slots : Nat}, fX7_create_23 h0 x1 x2 S = some (rv, Sf) → jm_J G S H → va_S (jm_A G) s.heap H locs → jm_L ls 3 [(0, .inr (some h0)), (1, .inl x1), (2, .inl x2)] → cells + n0 ≤ S.2.1 → slots + m0 ≤ S.2.2.1 → W p l e ({ frames := 8, cells := mc, slots := ms, locals := 197 } : Room) s m args below meth c H locs cells slots (MQ below (jm_Q G (some (.int rv)) Sf) args s mc ms (jm_A G)) (F0 m 23 ls []) := by
  intro h0 x1 x2 S H locs ls cells slots hf hJ hS hl hc1 hc2
  unfold fX7_create_23 at hf
  refine jw_aload_n C dX7_create_23 rfl (hl.at 0 rfl) ?_
  obtain ⟨v4, h4, hf⟩ := jm_rd_ok hf
  refine jw_gR (Cn := RX7) (T := TX7) (N := 12) C hJ h4 rfl inX7_create_X7 (by decide) (jm_w C 1 rfl) (fun _ h => h) dX7_create_24 ?_
  refine jw_ifnull (tgt := 41) C dX7_create_27 (by decide) (fun hq5 => ?_) (fun hq5 => ?_)
  · replace hf := jm_ift hf hq5
    refine lv_bipush (v := (-2)) C.1 C.2.1 dX7_create_41 (by decide) ?_
    obtain ⟨rfl, rfl⟩ := jm_ret_ok hf
    exact jw_ri C hJ hS (by omega) (by omega) dX7_create_43
  · replace hf := jm_iff hf hq5
    refine jw_aload_n C dX7_create_30 rfl (hl.at 0 rfl) ?_
    obtain ⟨v6, h6, hf⟩ := jm_rd_ok hf
    refine jw_gR (Cn := RX7) (T := TX7) (N := 12) C hJ h6 rfl inX7_create_X7 (by decide) (jm_w C 1 rfl) (fun _ h => h) dX7_create_31 ?_
    refine lv_iload_n C.1 C.2.1 dX7_create_34 rfl (hl.at 2 rfl) ?_
    obtain ⟨a7, o7, hf⟩ := jm_rd_ok hf
    obtain ⟨v7, S7, h7, hf⟩ := jm_bd_ok hf
    have e7 := moX1_hasClosed a7 x2 _ _ _ h7
    have g7 := jm_mo hf (jm_Mo_if (jm_Mo_rd (fun _ => jm_Mo_if (jm_Mo_ret _) (jm_Mo_rd (fun _ => jm_Mo_rd (fun _ => jm_Mo_rd (fun _ => jm_Mo_bd (moX4_find _ _) (fun _ => jm_Mo_if (jm_Mo_rd (fun _ => jm_Mo_rd (fun _ => jm_Mo_bd (moX7_parentOf _) (fun _ => jm_Mo_rd (fun _ => jm_Mo_bd (moX4_canHaveChildren _ _) (fun _ => jm_Mo_if (jm_Mo_ret _) (jm_Mo_rd (fun _ => jm_Mo_rd (fun _ => jm_Mo_bd (moX4_size _) (fun _ => jm_Mo_if (jm_Mo_rd (fun _ => jm_Mo_rd (fun _ => jm_Mo_bd (moX7_propose _ _ _ _ _) (fun _ => jm_Mo_ret _)))) (jm_Mo_ret _))))))))))) (jm_Mo_ret _)))))))) (jm_Mo_ret _))
    refine jw_cV (q := (RX1, TX1, 7)) C hJ hS o7 rfl (cX1_hasClosed_C l G a7 x2 h7) (cwV 1 C.2.2.2.2.1 gX7_create_X1_hasClosed rfl rfl rfl (by decide +kernel) ⟨Nat.le_of_ble_eq_true rfl, Nat.le_of_ble_eq_true rfl⟩) rfl hl.1 rfl (Nat.le_of_ble_eq_true rfl) dX7_create_35 ⟨by show cells + 0 ≤ mc; omega, by show slots + 0 ≤ ms; omega⟩ (fun H locs hJ hS => ?_)
    replace hc1 : cells + 0 + n0 ≤ S7.2.1 := by omega
    replace hc2 : slots + 0 + m0 ≤ S7.2.2.1 := by omega
    generalize cells + 0 = cells at hc1 ⊢
    generalize slots + 0 = slots at hc2 ⊢
    refine lv_if_eq (tgt := 44) C.1 C.2.1 dX7_create_38 (by decide) (fun hq8 => ?_) (fun hq8 => ?_)
    · replace hf := jm_ift hf hq8
      refine jw_aload_n C dX7_create_44 rfl (hl.at 0 rfl) ?_
      obtain ⟨v9, h9, hf⟩ := jm_rd_ok hf
      refine jw_gI (Cn := RX7) (T := TX7) (N := 12) C hJ h9 rfl inX7_create_X7 (by decide) (jm_w C 2 rfl) (fun _ h => h) dX7_create_45 ?_
      refine lv_if_eq (tgt := 65) C.1 C.2.1 dX7_create_48 (by decide) (fun hq10 => ?_) (fun hq10 => ?_)
      · replace hf := jm_ift hf hq10
        refine lv_bipush (v := (-4)) C.1 C.2.1 dX7_create_65 (by decide) ?_
        obtain ⟨rfl, rfl⟩ := jm_ret_ok hf
        exact jw_ri C hJ hS (by omega) (by omega) dX7_create_67
      · replace hf := jm_iff hf hq10
        refine jw_aload_n C dX7_create_51 rfl (hl.at 0 rfl) ?_
        obtain ⟨v11, h11, hf⟩ := jm_rd_ok hf
        refine jw_gR (Cn := RX7) (T := TX7) (N := 12) C hJ h11 rfl inX7_create_X7 (by decide) (jm_w C 3 rfl) (fun _ h => h) dX7_create_52 ?_
        refine jw_aload_n C dX7_create_55 rfl (hl.at 0 rfl) ?_
        obtain ⟨v12, h12, hf⟩ := jm_rd_ok hf
        refine jw_gI (Cn := RX7) (T := TX7) (N := 12) C hJ h12 rfl inX7_create_X7 (by decide) (jm_w C 2 rfl) (fun _ h => h) dX7_create_56 ?_
        obtain ⟨a13, o13, hf⟩ := jm_rd_ok hf
        obtain ⟨v13, S13, h13, hf⟩ := jm_bd_ok hf
        have e13 := moX4_find a13 v12 _ _ _ h13
        have g13 := jm_mo hf (jm_Mo_if (jm_Mo_rd (fun _ => jm_Mo_rd (fun _ => jm_Mo_bd (moX7_parentOf _) (fun _ => jm_Mo_rd (fun _ => jm_Mo_bd (moX4_canHaveChildren _ _) (fun _ => jm_Mo_if (jm_Mo_ret _) (jm_Mo_rd (fun _ => jm_Mo_rd (fun _ => jm_Mo_bd (moX4_size _) (fun _ => jm_Mo_if (jm_Mo_rd (fun _ => jm_Mo_rd (fun _ => jm_Mo_bd (moX7_propose _ _ _ _ _) (fun _ => jm_Mo_ret _)))) (jm_Mo_ret _))))))))))) (jm_Mo_ret _))
        refine jw_cV (q := (RX4, TX4, 2)) C hJ hS o13 rfl (cX4_find_C l G a13 v12 h13) (cwV 1 C.2.2.2.2.1 gX7_create_X4_find rfl rfl rfl (by decide +kernel) ⟨Nat.le_of_ble_eq_true rfl, Nat.le_of_ble_eq_true rfl⟩) rfl hl.1 rfl (Nat.le_of_ble_eq_true rfl) dX7_create_59 ⟨by show cells + 0 ≤ mc; omega, by show slots + 0 ≤ ms; omega⟩ (fun H locs hJ hS => ?_)
        replace hc1 : cells + 0 + n0 ≤ S13.2.1 := by omega
        replace hc2 : slots + 0 + m0 ≤ S13.2.2.1 := by omega
        generalize cells + 0 = cells at hc1 ⊢
        generalize slots + 0 = slots at hc2 ⊢
        refine jw_ifnull (tgt := 68) C dX7_create_62 (by decide) (fun hq14 => ?_) (fun hq14 => ?_)
        · replace hf := jm_ift hf hq14
          refine jw_aload_n C dX7_create_68 rfl (hl.at 0 rfl) ?_
          obtain ⟨v15, h15, hf⟩ := jm_rd_ok hf
          refine jw_gR (Cn := RX7) (T := TX7) (N := 12) C hJ h15 rfl inX7_create_X7 (by decide) (jm_w C 3 rfl) (fun _ h => h) dX7_create_69 ?_
          refine jw_aload_n C dX7_create_72 rfl (hl.at 0 rfl) ?_
          obtain ⟨v16, h16, hf⟩ := jm_rd_ok hf
          refine jw_gI (Cn := RX7) (T := TX7) (N := 12) C hJ h16 rfl inX7_create_X7 (by decide) (jm_w C 2 rfl) (fun _ h => h) dX7_create_73 ?_
          obtain ⟨v17, S17, h17, hf⟩ := jm_bd_ok hf
          have e17 := moX7_parentOf v16 _ _ _ h17
          have g17 := jm_mo hf (jm_Mo_rd (fun _ => jm_Mo_bd (moX4_canHaveChildren _ _) (fun _ => jm_Mo_if (jm_Mo_ret _) (jm_Mo_rd (fun _ => jm_Mo_rd (fun _ => jm_Mo_bd (moX4_size _) (fun _ => jm_Mo_if (jm_Mo_rd (fun _ => jm_Mo_rd (fun _ => jm_Mo_bd (moX7_propose _ _ _ _ _) (fun _ => jm_Mo_ret _)))) (jm_Mo_ret _))))))))
          refine jw_cS C hJ hS (cX7_parentOf_C l G v16 h17) (va_cwS 1 C.2.2.2.2.1 gX7_create_X7_parentOf rfl rfl rfl (by decide +kernel) ⟨Nat.le_of_ble_eq_true rfl, Nat.le_of_ble_eq_true rfl⟩) rfl hl.1 rfl (Nat.le_of_ble_eq_true rfl) dX7_create_76 ⟨by show cells + 0 ≤ mc; omega, by show slots + 0 ≤ ms; omega⟩ (fun H locs hJ hS => ?_)
          replace hc1 : cells + 0 + n0 ≤ S17.2.1 := by omega
          replace hc2 : slots + 0 + m0 ≤ S17.2.2.1 := by omega
          generalize cells + 0 = cells at hc1 ⊢
          generalize slots + 0 = slots at hc2 ⊢
          obtain ⟨a18, o18, hf⟩ := jm_rd_ok hf
          obtain ⟨v18, S18, h18, hf⟩ := jm_bd_ok hf
          have e18 := moX4_canHaveChildren a18 v17 _ _ _ h18
          have g18 := jm_mo hf (jm_Mo_if (jm_Mo_ret _) (jm_Mo_rd (fun _ => jm_Mo_rd (fun _ => jm_Mo_bd (moX4_size _) (fun _ => jm_Mo_if (jm_Mo_rd (fun _ => jm_Mo_rd (fun _ => jm_Mo_bd (moX7_propose _ _ _ _ _) (fun _ => jm_Mo_ret _)))) (jm_Mo_ret _))))))
          refine jw_cV (q := (RX4, TX4, 2)) C hJ hS o18 rfl (cX4_canHaveChildren_C l G a18 v17 h18) (cwV 1 C.2.2.2.2.1 gX7_create_X4_canHaveChildren rfl rfl rfl (by decide +kernel) ⟨Nat.le_of_ble_eq_true rfl, Nat.le_of_ble_eq_true rfl⟩) rfl hl.1 rfl (Nat.le_of_ble_eq_true rfl) dX7_create_79 ⟨by show cells + 0 ≤ mc; omega, by show slots + 0 ≤ ms; omega⟩ (fun H locs hJ hS => ?_)
          replace hc1 : cells + 0 + n0 ≤ S18.2.1 := by omega
          replace hc2 : slots + 0 + m0 ≤ S18.2.2.1 := by omega
          generalize cells + 0 = cells at hc1 ⊢
          generalize slots + 0 = slots at hc2 ⊢
          refine lv_if_ne (tgt := 88) C.1 C.2.1 dX7_create_82 (by decide) (fun hq19 => ?_) (fun hq19 => ?_)
          · replace hf := jm_iff hf hq19
            refine jw_aload_n C dX7_create_88 rfl (hl.at 0 rfl) ?_
            obtain ⟨v20, h20, hf⟩ := jm_rd_ok hf
            refine jw_gR (Cn := RX7) (T := TX7) (N := 12) C hJ h20 rfl inX7_create_X7 (by decide) (jm_w C 3 rfl) (fun _ h => h) dX7_create_89 ?_
            obtain ⟨a21, o21, hf⟩ := jm_rd_ok hf
            obtain ⟨v21, S21, h21, hf⟩ := jm_bd_ok hf
            have e21 := moX4_size a21 _ _ _ h21
            have g21 := jm_mo hf (jm_Mo_if (jm_Mo_rd (fun _ => jm_Mo_rd (fun _ => jm_Mo_bd (moX7_propose _ _ _ _ _) (fun _ => jm_Mo_ret _)))) (jm_Mo_ret _))
            refine jw_cV (q := (RX4, TX4, 2)) C hJ hS o21 rfl (cX4_size_C l G a21 h21) (cwV 0 C.2.2.2.2.1 gX7_create_X4_size rfl rfl rfl (by decide +kernel) ⟨Nat.le_of_ble_eq_true rfl, Nat.le_of_ble_eq_true rfl⟩) rfl hl.1 rfl (Nat.le_of_ble_eq_true rfl) dX7_create_92 ⟨by show cells + 0 ≤ mc; omega, by show slots + 0 ≤ ms; omega⟩ (fun H locs hJ hS => ?_)
            replace hc1 : cells + 0 + n0 ≤ S21.2.1 := by omega
            replace hc2 : slots + 0 + m0 ≤ S21.2.2.1 := by omega
            generalize cells + 0 = cells at hc1 ⊢
            generalize slots + 0 = slots at hc2 ⊢
            refine lv_bipush (v := 12) C.1 C.2.1 dX7_create_95 (by decide) ?_
            refine lv_icmp_lt (tgt := 103) C.1 C.2.1 dX7_create_97 (by decide) (fun hq22 => ?_) (fun hq22 => ?_)
            · replace hf := jm_ift hf hq22
              refine jw_aload_n C dX7_create_103 rfl (hl.at 0 rfl) ?_
              refine lv_iconst (v := 0) C.1 C.2.1 dX7_create_104 (by decide) ?_
              refine jw_aload_n C dX7_create_105 rfl (hl.at 0 rfl) ?_
              obtain ⟨v23, h23, hf⟩ := jm_rd_ok hf
              refine jw_gI (Cn := RX7) (T := TX7) (N := 12) C hJ h23 rfl inX7_create_X7 (by decide) (jm_w C 2 rfl) (fun _ h => h) dX7_create_106 ?_
              refine lv_iload_n C.1 C.2.1 dX7_create_109 rfl (hl.at 1 rfl) ?_
              refine lv_iload_n C.1 C.2.1 dX7_create_110 rfl (hl.at 2 rfl) ?_
              obtain ⟨a24, o24, hf⟩ := jm_rd_ok hf
              obtain ⟨v24, S24, h24, hf⟩ := jm_bd_ok hf
              have e24 := moX7_propose a24 0 v23 x1 x2 _ _ _ h24
              have g24 := jm_mo hf (jm_Mo_ret _)
              refine jw_cV (q := (RX7, TX7, 12)) C hJ hS o24 rfl (cX7_propose_C l G a24 0 v23 x1 x2 h24 (S24.2.1 - S21.2.1) (S24.2.2.1 - S21.2.2.1) (by omega) (by omega)) (cwV 4 C.2.2.2.2.1 gX7_create_X7_propose rfl rfl rfl (by decide +kernel) ⟨Nat.le_of_ble_eq_true rfl, Nat.le_of_ble_eq_true rfl⟩) rfl hl.1 rfl (Nat.le_of_ble_eq_true rfl) dX7_create_111 ⟨by show cells + _ ≤ mc; omega, by show slots + _ ≤ ms; omega⟩ (fun H locs hJ hS => ?_)
              replace hc1 : cells + (S24.2.1 - S21.2.1) + n0 ≤ S24.2.1 := by omega
              replace hc2 : slots + (S24.2.2.1 - S21.2.2.1) + m0 ≤ S24.2.2.1 := by omega
              generalize cells + (S24.2.1 - S21.2.1) = cells at hc1 ⊢
              generalize slots + (S24.2.2.1 - S21.2.2.1) = slots at hc2 ⊢
              obtain ⟨rfl, rfl⟩ := jm_ret_ok hf
              exact jw_ri C hJ hS (by omega) (by omega) dX7_create_114
            · replace hf := jm_iff hf hq22
              refine lv_bipush (v := (-7)) C.1 C.2.1 dX7_create_100 (by decide) ?_
              obtain ⟨rfl, rfl⟩ := jm_ret_ok hf
              exact jw_ri C hJ hS (by omega) (by omega) dX7_create_102
          · replace hf := jm_ift hf hq19
            refine lv_bipush (v := (-3)) C.1 C.2.1 dX7_create_85 (by decide) ?_
            obtain ⟨rfl, rfl⟩ := jm_ret_ok hf
            exact jw_ri C hJ hS (by omega) (by omega) dX7_create_87
        · replace hf := jm_iff hf hq14
          refine lv_bipush (v := (-4)) C.1 C.2.1 dX7_create_65 (by decide) ?_
          obtain ⟨rfl, rfl⟩ := jm_ret_ok hf
          exact jw_ri C hJ hS (by omega) (by omega) dX7_create_67
    · replace hf := jm_iff hf hq8
      refine lv_bipush (v := (-2)) C.1 C.2.1 dX7_create_41 (by decide) ?_
      obtain ⟨rfl, rfl⟩ := jm_ret_ok hf
      exact jw_ri C hJ hS (by omega) (by omega) dX7_create_43
theorem moX7_create (h0 : Nat) (x1 : Int32) (x2 : Int32) : jm_Mo (fX7_create h0 x1 x2) := by
  unfold fX7_create
  exact jm_Mo_bd (moX7_isData _) (fun _ => jm_Mo_if (jm_Mo_ret _) (jm_Mo_if (moX7_create_23 _ _ _) (jm_Mo_rd (fun _ => jm_Mo_bd (moX7_findSession _ _) (fun _ => jm_Mo_if (jm_Mo_ret _) (moX7_create_23 _ _ _))))))
set_option maxHeartbeats 4000000 in
set_option maxRecDepth 100000 in
theorem kX7_create {rv : Int32} {Sf : jm_S} (C : jm_C G cX7_create 3 RX7 wsX7_create ((some .int)) p s m args meth c) {n0 m0 mc ms : Nat} (hr1 : Sf.2.1 ≤ n0 + mc) (hr2 : Sf.2.2.1 ≤ m0 + ms) : ∀ (h0 : Nat) (x1 : Int32) (x2 : Int32) {S : jm_S} {H : Heap} {locs : List Loc} {ls : Array Slot} {cells slots : Nat}, fX7_create h0 x1 x2 S = some (rv, Sf) → jm_J G S H → va_S (jm_A G) s.heap H locs → jm_L ls 3 [(0, .inr (some h0)), (1, .inl x1), (2, .inl x2)] → cells + n0 ≤ S.2.1 → slots + m0 ≤ S.2.2.1 → W p l e ({ frames := 8, cells := mc, slots := ms, locals := 197 } : Room) s m args below meth c H locs cells slots (MQ below (jm_Q G (some (.int rv)) Sf) args s mc ms (jm_A G)) (F0 m 0 ls []) := by
  intro h0 x1 x2 S H locs ls cells slots hf hJ hS hl hc1 hc2
  unfold fX7_create at hf
  refine lv_iload_n C.1 C.2.1 dX7_create_0 rfl (hl.at 1 rfl) ?_
  obtain ⟨v1, S1, h1, hf⟩ := jm_bd_ok hf
  have e1 := moX7_isData x1 _ _ _ h1
  have g1 := jm_mo hf (jm_Mo_if (jm_Mo_ret _) (jm_Mo_if (moX7_create_23 _ _ _) (jm_Mo_rd (fun _ => jm_Mo_bd (moX7_findSession _ _) (fun _ => jm_Mo_if (jm_Mo_ret _) (moX7_create_23 _ _ _))))))
  refine jw_cS C hJ hS (cX7_isData_C l G x1 h1) (va_cwS 1 C.2.2.2.2.1 gX7_create_X7_isData rfl rfl rfl (by decide +kernel) ⟨Nat.le_of_ble_eq_true rfl, Nat.le_of_ble_eq_true rfl⟩) rfl hl.1 rfl (Nat.le_of_ble_eq_true rfl) dX7_create_1 ⟨by show cells + 0 ≤ mc; omega, by show slots + 0 ≤ ms; omega⟩ (fun H locs hJ hS => ?_)
  replace hc1 : cells + 0 + n0 ≤ S1.2.1 := by omega
  replace hc2 : slots + 0 + m0 ≤ S1.2.2.1 := by omega
  generalize cells + 0 = cells at hc1 ⊢
  generalize slots + 0 = slots at hc2 ⊢
  refine lv_if_eq (tgt := 21) C.1 C.2.1 dX7_create_4 (by decide) (fun hq2 => ?_) (fun hq2 => ?_)
  · replace hf := jm_ift hf hq2
    refine lv_iconst (v := (-1)) C.1 C.2.1 dX7_create_21 (by decide) ?_
    obtain ⟨rfl, rfl⟩ := jm_ret_ok hf
    exact jw_ri C hJ hS (by omega) (by omega) dX7_create_22
  · replace hf := jm_iff hf hq2
    refine lv_iload_n C.1 C.2.1 dX7_create_7 rfl (hl.at 2 rfl) ?_
    refine lv_bipush (v := (-8)) C.1 C.2.1 dX7_create_8 (by decide) ?_
    refine lv_icmp_eq (tgt := 23) C.1 C.2.1 dX7_create_10 (by decide) (fun hq3 => ?_) (fun hq3 => ?_)
    · replace hf := jm_ift hf hq3
      exact kX7_create_23 C hr1 hr2 h0 x1 x2 hf hJ hS (hl.sub [0, 1, 2] rfl) hc1 hc2
    · replace hf := jm_iff hf hq3
      refine jw_aload_n C dX7_create_13 rfl (hl.at 0 rfl) ?_
      refine lv_iload_n C.1 C.2.1 dX7_create_14 rfl (hl.at 2 rfl) ?_
      obtain ⟨a25, o25, hf⟩ := jm_rd_ok hf
      obtain ⟨v25, S25, h25, hf⟩ := jm_bd_ok hf
      have e25 := moX7_findSession a25 x2 _ _ _ h25
      have g25 := jm_mo hf (jm_Mo_if (jm_Mo_ret _) (moX7_create_23 _ _ _))
      refine jw_cV (q := (RX7, TX7, 12)) C hJ hS o25 rfl (cX7_findSession_C l G a25 x2 h25) (cwV 1 C.2.2.2.2.1 gX7_create_X7_findSession rfl rfl rfl (by decide +kernel) ⟨Nat.le_of_ble_eq_true rfl, Nat.le_of_ble_eq_true rfl⟩) rfl hl.1 rfl (Nat.le_of_ble_eq_true rfl) dX7_create_15 ⟨by show cells + 0 ≤ mc; omega, by show slots + 0 ≤ ms; omega⟩ (fun H locs hJ hS => ?_)
      replace hc1 : cells + 0 + n0 ≤ S25.2.1 := by omega
      replace hc2 : slots + 0 + m0 ≤ S25.2.2.1 := by omega
      generalize cells + 0 = cells at hc1 ⊢
      generalize slots + 0 = slots at hc2 ⊢
      refine jw_ifnonnull (tgt := 23) C dX7_create_18 (by decide) (fun hq26 => ?_) (fun hq26 => ?_)
      · replace hf := jm_iff hf hq26
        exact kX7_create_23 C hr1 hr2 h0 x1 x2 hf hJ hS (hl.sub [0, 1, 2] rfl) hc1 hc2
      · replace hf := jm_ift hf hq26
        refine lv_iconst (v := (-1)) C.1 C.2.1 dX7_create_21 (by decide) ?_
        obtain ⟨rfl, rfl⟩ := jm_ret_ok hf
        exact jw_ri C hJ hS (by omega) (by omega) dX7_create_22
set_option maxHeartbeats 4000000 in
set_option maxRecDepth 100000 in
theorem cX7_create_C (l : Launch) (G : jm_G) (h0 : Nat) (x1 : Int32) (x2 : Int32) {S Sf : jm_S} {rv : Int32} (hf : fX7_create h0 x1 x2 S = some (rv, Sf)) (mc ms : Nat) (hr1 : Sf.2.1 ≤ S.2.1 + mc) (hr2 : Sf.2.2.1 ≤ S.2.2.1 + ms) : Met l yX7_create wsX7_create ({ frames := 8, cells := mc, slots := ms, locals := 197 } : Room) (jm_Pc G S [.ref h0, .int x1, .int x2]) (jm_Q G (some (.int rv)) Sf) mc ms (jm_A G) := by
  refine Met.ofW (cc := cX7_create) (maxL := 3) (ret := (some .int)) (by decide) rfl ?_
  intro p e s m args below meth c s₁ B hml hv
  obtain ⟨rfl, hJ, hX⟩ := hv
  have C : jm_C G cX7_create 3 RX7 wsX7_create ((some .int)) p s m _ meth c := ⟨B.exec, B.bytes, hml, findClass_of_methodNamed B.named, atoms_spec (ws := wsX7_create) B.pre, B.returns, B.notSynchronized, hX⟩
  obtain ⟨ls, he, hl⟩ := jm_entry m [.inr (some h0), .inl x1, .inl x2] (n := 3) (Nat.le_of_ble_eq_true rfl)
  have he : entryFrame m ([.ref h0, .int x1, .int x2] : List Value).toArray 3 = F0 m 0 ls [] := he
  rw [he]
  exact kX7_create C (n0 := S.2.1) (m0 := S.2.2.1) hr1 hr2 h0 x1 x2 hf hJ va_S.rf (hl.sub [0, 1, 2] rfl) (by omega) (by omega)
/-! CoordinationService.isVersion -/
def fX7_isVersion (x0 : Int32) : jm_P Int32 := (if 0 ≤ x0 then jm_rd (jm_z 1) fun _ => jm_ret 1 else (if x0 = (-9) then jm_rd (jm_z 1) fun _ => jm_ret 1 else jm_rd (jm_z 0) fun _ => jm_ret 0))
theorem moX7_isVersion (x0 : Int32) : jm_Mo (fX7_isVersion x0) := by
  unfold fX7_isVersion
  exact jm_Mo_if (jm_Mo_rd (fun _ => jm_Mo_ret _)) (jm_Mo_if (jm_Mo_rd (fun _ => jm_Mo_ret _)) (jm_Mo_rd (fun _ => jm_Mo_ret _)))
set_option maxHeartbeats 4000000 in
set_option maxRecDepth 100000 in
theorem kX7_isVersion {rv : Int32} {Sf : jm_S} (C : jm_C G cX7_isVersion 1 RX7 wsX7_isVersion ((some .boolean)) p s m args meth c) : ∀ (x0 : Int32) {S : jm_S} {H : Heap} {locs : List Loc} {ls : Array Slot}, fX7_isVersion x0 S = some (rv, Sf) → jm_J G S H → va_S (jm_A G) s.heap H locs → jm_L ls 1 [(0, .inl x0)] → W p l e ({ frames := 0, cells := 0, slots := 0, locals := 0 } : Room) s m args below meth c H locs 0 0 (MQ below (jm_Q G (some (.int rv)) Sf) args s 0 0 (jm_A G)) (F0 m 0 ls []) := by
  intro x0 S H locs ls hf hJ hS hl
  unfold fX7_isVersion at hf
  refine lv_iload_n C.1 C.2.1 dX7_isVersion_0 rfl (hl.at 0 rfl) ?_
  refine lv_if_ge (tgt := 10) C.1 C.2.1 dX7_isVersion_1 (by decide) (fun hq1 => ?_) (fun hq1 => ?_)
  · replace hf := jm_ift hf hq1
    refine lv_iconst (v := 1) C.1 C.2.1 dX7_isVersion_10 (by decide) ?_
    refine lv_goto (tgt := 15) C.1 C.2.1 dX7_isVersion_11 (by decide) ?_
    obtain ⟨u2, z2, hf⟩ := jm_rd_ok hf
    obtain ⟨rfl, rfl⟩ := jm_ret_ok hf
    exact jw_rz C hJ hS z2 (Nat.le_refl _) (Nat.le_refl _) dX7_isVersion_15
  · replace hf := jm_iff hf hq1
    refine lv_iload_n C.1 C.2.1 dX7_isVersion_4 rfl (hl.at 0 rfl) ?_
    refine lv_bipush (v := (-9)) C.1 C.2.1 dX7_isVersion_5 (by decide) ?_
    refine lv_icmp_ne (tgt := 14) C.1 C.2.1 dX7_isVersion_7 (by decide) (fun hq3 => ?_) (fun hq3 => ?_)
    · replace hf := jm_iff hf hq3
      refine lv_iconst (v := 0) C.1 C.2.1 dX7_isVersion_14 (by decide) ?_
      obtain ⟨u4, z4, hf⟩ := jm_rd_ok hf
      obtain ⟨rfl, rfl⟩ := jm_ret_ok hf
      exact jw_rz C hJ hS z4 (Nat.le_refl _) (Nat.le_refl _) dX7_isVersion_15
    · replace hf := jm_ift hf hq3
      refine lv_iconst (v := 1) C.1 C.2.1 dX7_isVersion_10 (by decide) ?_
      refine lv_goto (tgt := 15) C.1 C.2.1 dX7_isVersion_11 (by decide) ?_
      obtain ⟨u5, z5, hf⟩ := jm_rd_ok hf
      obtain ⟨rfl, rfl⟩ := jm_ret_ok hf
      exact jw_rz C hJ hS z5 (Nat.le_refl _) (Nat.le_refl _) dX7_isVersion_15
set_option maxHeartbeats 4000000 in
set_option maxRecDepth 100000 in
theorem cX7_isVersion_C (l : Launch) (G : jm_G) (x0 : Int32) {S Sf : jm_S} {rv : Int32} (hf : fX7_isVersion x0 S = some (rv, Sf)) : Met l yX7_isVersion wsX7_isVersion ({ frames := 0, cells := 0, slots := 0, locals := 0 } : Room) (jm_Pc G S [.int x0]) (jm_Q G (some (.int rv)) Sf) 0 0 (jm_A G) := by
  refine Met.ofW (cc := cX7_isVersion) (maxL := 1) (ret := (some .boolean)) (by decide) rfl ?_
  intro p e s m args below meth c s₁ B hml hv
  obtain ⟨rfl, hJ, hX⟩ := hv
  have C : jm_C G cX7_isVersion 1 RX7 wsX7_isVersion ((some .boolean)) p s m _ meth c := ⟨B.exec, B.bytes, hml, findClass_of_methodNamed B.named, atoms_spec (ws := wsX7_isVersion) B.pre, B.returns, B.notSynchronized, hX⟩
  obtain ⟨ls, he, hl⟩ := jm_entry m [.inl x0] (n := 1) (Nat.le_of_ble_eq_true rfl)
  have he : entryFrame m ([.int x0] : List Value).toArray 1 = F0 m 0 ls [] := he
  rw [he]
  exact kX7_isVersion C x0 hf hJ va_S.rf (hl.sub [0] rfl)
/-! CoordinationService$Node.hasVersion -/
def fX0_hasVersion (h0 : Nat) (x1 : Int32) : jm_P Int32 := (if x1 = (-9) then jm_rd (jm_z 1) fun _ => jm_ret 1 else jm_rd (jm_gI (some h0) 1 2) fun v3 => (if x1 = v3 then jm_rd (jm_z 1) fun _ => jm_ret 1 else jm_rd (jm_z 0) fun _ => jm_ret 0))
theorem inX0_hasVersion_X0 : ∀ w ∈ wsX00, w ∈ wsX0_hasVersion := fun _ h => List.mem_cons_of_mem _ (List.mem_append_right _ h)
theorem moX0_hasVersion (h0 : Nat) (x1 : Int32) : jm_Mo (fX0_hasVersion h0 x1) := by
  unfold fX0_hasVersion
  exact jm_Mo_if (jm_Mo_rd (fun _ => jm_Mo_ret _)) (jm_Mo_rd (fun _ => jm_Mo_if (jm_Mo_rd (fun _ => jm_Mo_ret _)) (jm_Mo_rd (fun _ => jm_Mo_ret _))))
set_option maxHeartbeats 4000000 in
set_option maxRecDepth 100000 in
theorem kX0_hasVersion {rv : Int32} {Sf : jm_S} (C : jm_C G cX0_hasVersion 2 RX0 wsX0_hasVersion ((some .boolean)) p s m args meth c) : ∀ (h0 : Nat) (x1 : Int32) {S : jm_S} {H : Heap} {locs : List Loc} {ls : Array Slot}, fX0_hasVersion h0 x1 S = some (rv, Sf) → jm_J G S H → va_S (jm_A G) s.heap H locs → jm_L ls 2 [(0, .inr (some h0)), (1, .inl x1)] → W p l e ({ frames := 0, cells := 0, slots := 0, locals := 0 } : Room) s m args below meth c H locs 0 0 (MQ below (jm_Q G (some (.int rv)) Sf) args s 0 0 (jm_A G)) (F0 m 0 ls []) := by
  intro h0 x1 S H locs ls hf hJ hS hl
  unfold fX0_hasVersion at hf
  refine lv_iload_n C.1 C.2.1 dX0_hasVersion_0 rfl (hl.at 1 rfl) ?_
  refine lv_bipush (v := (-9)) C.1 C.2.1 dX0_hasVersion_1 (by decide) ?_
  refine lv_icmp_eq (tgt := 14) C.1 C.2.1 dX0_hasVersion_3 (by decide) (fun hq1 => ?_) (fun hq1 => ?_)
  · replace hf := jm_ift hf hq1
    refine lv_iconst (v := 1) C.1 C.2.1 dX0_hasVersion_14 (by decide) ?_
    refine lv_goto (tgt := 19) C.1 C.2.1 dX0_hasVersion_15 (by decide) ?_
    obtain ⟨u2, z2, hf⟩ := jm_rd_ok hf
    obtain ⟨rfl, rfl⟩ := jm_ret_ok hf
    exact jw_rz C hJ hS z2 (Nat.le_refl _) (Nat.le_refl _) dX0_hasVersion_19
  · replace hf := jm_iff hf hq1
    refine lv_iload_n C.1 C.2.1 dX0_hasVersion_6 rfl (hl.at 1 rfl) ?_
    refine jw_aload_n C dX0_hasVersion_7 rfl (hl.at 0 rfl) ?_
    obtain ⟨v3, h3, hf⟩ := jm_rd_ok hf
    refine jw_gI (Cn := RX0) (T := TX0) (N := 4) C hJ h3 rfl inX0_hasVersion_X0 (by decide) (jm_w C 1 rfl) (fun _ h => h) dX0_hasVersion_8 ?_
    refine lv_icmp_ne (tgt := 18) C.1 C.2.1 dX0_hasVersion_11 (by decide) (fun hq4 => ?_) (fun hq4 => ?_)
    · replace hf := jm_iff hf hq4
      refine lv_iconst (v := 0) C.1 C.2.1 dX0_hasVersion_18 (by decide) ?_
      obtain ⟨u5, z5, hf⟩ := jm_rd_ok hf
      obtain ⟨rfl, rfl⟩ := jm_ret_ok hf
      exact jw_rz C hJ hS z5 (Nat.le_refl _) (Nat.le_refl _) dX0_hasVersion_19
    · replace hf := jm_ift hf hq4
      refine lv_iconst (v := 1) C.1 C.2.1 dX0_hasVersion_14 (by decide) ?_
      refine lv_goto (tgt := 19) C.1 C.2.1 dX0_hasVersion_15 (by decide) ?_
      obtain ⟨u6, z6, hf⟩ := jm_rd_ok hf
      obtain ⟨rfl, rfl⟩ := jm_ret_ok hf
      exact jw_rz C hJ hS z6 (Nat.le_refl _) (Nat.le_refl _) dX0_hasVersion_19
set_option maxHeartbeats 4000000 in
set_option maxRecDepth 100000 in
theorem cX0_hasVersion_C (l : Launch) (G : jm_G) (h0 : Nat) (x1 : Int32) {S Sf : jm_S} {rv : Int32} (hf : fX0_hasVersion h0 x1 S = some (rv, Sf)) : Met l yX0_hasVersion wsX0_hasVersion ({ frames := 0, cells := 0, slots := 0, locals := 0 } : Room) (jm_Pc G S [.ref h0, .int x1]) (jm_Q G (some (.int rv)) Sf) 0 0 (jm_A G) := by
  refine Met.ofW (cc := cX0_hasVersion) (maxL := 2) (ret := (some .boolean)) (by decide) rfl ?_
  intro p e s m args below meth c s₁ B hml hv
  obtain ⟨rfl, hJ, hX⟩ := hv
  have C : jm_C G cX0_hasVersion 2 RX0 wsX0_hasVersion ((some .boolean)) p s m _ meth c := ⟨B.exec, B.bytes, hml, findClass_of_methodNamed B.named, atoms_spec (ws := wsX0_hasVersion) B.pre, B.returns, B.notSynchronized, hX⟩
  obtain ⟨ls, he, hl⟩ := jm_entry m [.inr (some h0), .inl x1] (n := 2) (Nat.le_of_ble_eq_true rfl)
  have he : entryFrame m ([.ref h0, .int x1] : List Value).toArray 2 = F0 m 0 ls [] := he
  rw [he]
  exact kX0_hasVersion C h0 x1 hf hJ va_S.rf (hl.sub [0, 1] rfl)
/-! CoordinationService.setData -/
def fX7_setData (h0 : Nat) (x1 : Int32) (x2 : Int32) : jm_P Int32 := jm_bd (fX7_isData x1) fun v1 => (if v1 = 0 then jm_ret (-1) else jm_bd (fX7_isVersion x2) fun v3 => (if v3 = 0 then jm_ret (-1) else jm_rd (jm_gR (some h0) 8 6) fun v5 => (if v5 = none then jm_ret (-2) else jm_rd (jm_gI (some h0) 8 10) fun v7 => (if v7 = 0 then jm_ret (-2) else jm_rd (jm_gR (some h0) 8 3) fun v9 => jm_rd (jm_gI (some h0) 8 10) fun v10 => jm_rd (jm_o v9 5) fun a11 => jm_bd (fX4_find a11 v10) fun v11 => (if v11 = none then jm_ret (-3) else jm_rd (jm_o v11 1) fun a13 => jm_bd (fX0_hasVersion a13 x2) fun v13 => (if v13 = 0 then jm_ret (-5) else jm_rd (jm_gI (some h0) 8 10) fun v15 => jm_rd (jm_o (some h0) 8) fun a16 => jm_bd (fX7_propose a16 1 v15 x1 (-8)) fun v16 => jm_ret v16))))))
theorem inX7_setData_X7 : ∀ w ∈ wsX70, w ∈ wsX7_setData := fun _ h => List.mem_cons_of_mem _ (List.mem_append_left _ (List.mem_append_left _ (List.mem_append_left _ (List.mem_append_left _ (List.mem_append_left _ (List.mem_append_left _ (List.mem_append_left _ (List.mem_append_left _ (List.mem_append_right _ h)))))))))
theorem moX7_setData (h0 : Nat) (x1 : Int32) (x2 : Int32) : jm_Mo (fX7_setData h0 x1 x2) := by
  unfold fX7_setData
  exact jm_Mo_bd (moX7_isData _) (fun _ => jm_Mo_if (jm_Mo_ret _) (jm_Mo_bd (moX7_isVersion _) (fun _ => jm_Mo_if (jm_Mo_ret _) (jm_Mo_rd (fun _ => jm_Mo_if (jm_Mo_ret _) (jm_Mo_rd (fun _ => jm_Mo_if (jm_Mo_ret _) (jm_Mo_rd (fun _ => jm_Mo_rd (fun _ => jm_Mo_rd (fun _ => jm_Mo_bd (moX4_find _ _) (fun _ => jm_Mo_if (jm_Mo_ret _) (jm_Mo_rd (fun _ => jm_Mo_bd (moX0_hasVersion _ _) (fun _ => jm_Mo_if (jm_Mo_ret _) (jm_Mo_rd (fun _ => jm_Mo_rd (fun _ => jm_Mo_bd (moX7_propose _ _ _ _ _) (fun _ => jm_Mo_ret _)))))))))))))))))))
set_option maxHeartbeats 4000000 in
set_option maxRecDepth 100000 in
theorem kX7_setData {rv : Int32} {Sf : jm_S} (C : jm_C G cX7_setData 4 RX7 wsX7_setData ((some .int)) p s m args meth c) {n0 m0 mc ms : Nat} (hr1 : Sf.2.1 ≤ n0 + mc) (hr2 : Sf.2.2.1 ≤ m0 + ms) : ∀ (h0 : Nat) (x1 : Int32) (x2 : Int32) {S : jm_S} {H : Heap} {locs : List Loc} {ls : Array Slot} {cells slots : Nat}, fX7_setData h0 x1 x2 S = some (rv, Sf) → jm_J G S H → va_S (jm_A G) s.heap H locs → jm_L ls 4 [(0, .inr (some h0)), (1, .inl x1), (2, .inl x2)] → cells + n0 ≤ S.2.1 → slots + m0 ≤ S.2.2.1 → W p l e ({ frames := 8, cells := mc, slots := ms, locals := 197 } : Room) s m args below meth c H locs cells slots (MQ below (jm_Q G (some (.int rv)) Sf) args s mc ms (jm_A G)) (F0 m 0 ls []) := by
  intro h0 x1 x2 S H locs ls cells slots hf hJ hS hl hc1 hc2
  unfold fX7_setData at hf
  refine lv_iload_n C.1 C.2.1 dX7_setData_0 rfl (hl.at 1 rfl) ?_
  obtain ⟨v1, S1, h1, hf⟩ := jm_bd_ok hf
  have e1 := moX7_isData x1 _ _ _ h1
  have g1 := jm_mo hf (jm_Mo_if (jm_Mo_ret _) (jm_Mo_bd (moX7_isVersion _) (fun _ => jm_Mo_if (jm_Mo_ret _) (jm_Mo_rd (fun _ => jm_Mo_if (jm_Mo_ret _) (jm_Mo_rd (fun _ => jm_Mo_if (jm_Mo_ret _) (jm_Mo_rd (fun _ => jm_Mo_rd (fun _ => jm_Mo_rd (fun _ => jm_Mo_bd (moX4_find _ _) (fun _ => jm_Mo_if (jm_Mo_ret _) (jm_Mo_rd (fun _ => jm_Mo_bd (moX0_hasVersion _ _) (fun _ => jm_Mo_if (jm_Mo_ret _) (jm_Mo_rd (fun _ => jm_Mo_rd (fun _ => jm_Mo_bd (moX7_propose _ _ _ _ _) (fun _ => jm_Mo_ret _)))))))))))))))))))
  refine jw_cS C hJ hS (cX7_isData_C l G x1 h1) (va_cwS 1 C.2.2.2.2.1 gX7_setData_X7_isData rfl rfl rfl (by decide +kernel) ⟨Nat.le_of_ble_eq_true rfl, Nat.le_of_ble_eq_true rfl⟩) rfl hl.1 rfl (Nat.le_of_ble_eq_true rfl) dX7_setData_1 ⟨by show cells + 0 ≤ mc; omega, by show slots + 0 ≤ ms; omega⟩ (fun H locs hJ hS => ?_)
  replace hc1 : cells + 0 + n0 ≤ S1.2.1 := by omega
  replace hc2 : slots + 0 + m0 ≤ S1.2.2.1 := by omega
  generalize cells + 0 = cells at hc1 ⊢
  generalize slots + 0 = slots at hc2 ⊢
  refine lv_if_eq (tgt := 14) C.1 C.2.1 dX7_setData_4 (by decide) (fun hq2 => ?_) (fun hq2 => ?_)
  · replace hf := jm_ift hf hq2
    refine lv_iconst (v := (-1)) C.1 C.2.1 dX7_setData_14 (by decide) ?_
    obtain ⟨rfl, rfl⟩ := jm_ret_ok hf
    exact jw_ri C hJ hS (by omega) (by omega) dX7_setData_15
  · replace hf := jm_iff hf hq2
    refine lv_iload_n C.1 C.2.1 dX7_setData_7 rfl (hl.at 2 rfl) ?_
    obtain ⟨v3, S3, h3, hf⟩ := jm_bd_ok hf
    have e3 := moX7_isVersion x2 _ _ _ h3
    have g3 := jm_mo hf (jm_Mo_if (jm_Mo_ret _) (jm_Mo_rd (fun _ => jm_Mo_if (jm_Mo_ret _) (jm_Mo_rd (fun _ => jm_Mo_if (jm_Mo_ret _) (jm_Mo_rd (fun _ => jm_Mo_rd (fun _ => jm_Mo_rd (fun _ => jm_Mo_bd (moX4_find _ _) (fun _ => jm_Mo_if (jm_Mo_ret _) (jm_Mo_rd (fun _ => jm_Mo_bd (moX0_hasVersion _ _) (fun _ => jm_Mo_if (jm_Mo_ret _) (jm_Mo_rd (fun _ => jm_Mo_rd (fun _ => jm_Mo_bd (moX7_propose _ _ _ _ _) (fun _ => jm_Mo_ret _)))))))))))))))))
    refine jw_cS C hJ hS (cX7_isVersion_C l G x2 h3) (va_cwS 1 C.2.2.2.2.1 gX7_setData_X7_isVersion rfl rfl rfl (by decide +kernel) ⟨Nat.le_of_ble_eq_true rfl, Nat.le_of_ble_eq_true rfl⟩) rfl hl.1 rfl (Nat.le_of_ble_eq_true rfl) dX7_setData_8 ⟨by show cells + 0 ≤ mc; omega, by show slots + 0 ≤ ms; omega⟩ (fun H locs hJ hS => ?_)
    replace hc1 : cells + 0 + n0 ≤ S3.2.1 := by omega
    replace hc2 : slots + 0 + m0 ≤ S3.2.2.1 := by omega
    generalize cells + 0 = cells at hc1 ⊢
    generalize slots + 0 = slots at hc2 ⊢
    refine lv_if_ne (tgt := 16) C.1 C.2.1 dX7_setData_11 (by decide) (fun hq4 => ?_) (fun hq4 => ?_)
    · replace hf := jm_iff hf hq4
      refine jw_aload_n C dX7_setData_16 rfl (hl.at 0 rfl) ?_
      obtain ⟨v5, h5, hf⟩ := jm_rd_ok hf
      refine jw_gR (Cn := RX7) (T := TX7) (N := 12) C hJ h5 rfl inX7_setData_X7 (by decide) (jm_w C 1 rfl) (fun _ h => h) dX7_setData_17 ?_
      refine jw_ifnull (tgt := 30) C dX7_setData_20 (by decide) (fun hq6 => ?_) (fun hq6 => ?_)
      · replace hf := jm_ift hf hq6
        refine lv_bipush (v := (-2)) C.1 C.2.1 dX7_setData_30 (by decide) ?_
        obtain ⟨rfl, rfl⟩ := jm_ret_ok hf
        exact jw_ri C hJ hS (by omega) (by omega) dX7_setData_32
      · replace hf := jm_iff hf hq6
        refine jw_aload_n C dX7_setData_23 rfl (hl.at 0 rfl) ?_
        obtain ⟨v7, h7, hf⟩ := jm_rd_ok hf
        refine jw_gI (Cn := RX7) (T := TX7) (N := 12) C hJ h7 rfl inX7_setData_X7 (by decide) (jm_w C 2 rfl) (fun _ h => h) dX7_setData_24 ?_
        refine lv_if_ne (tgt := 33) C.1 C.2.1 dX7_setData_27 (by decide) (fun hq8 => ?_) (fun hq8 => ?_)
        · replace hf := jm_iff hf hq8
          refine jw_aload_n C dX7_setData_33 rfl (hl.at 0 rfl) ?_
          obtain ⟨v9, h9, hf⟩ := jm_rd_ok hf
          refine jw_gR (Cn := RX7) (T := TX7) (N := 12) C hJ h9 rfl inX7_setData_X7 (by decide) (jm_w C 3 rfl) (fun _ h => h) dX7_setData_34 ?_
          refine jw_aload_n C dX7_setData_37 rfl (hl.at 0 rfl) ?_
          obtain ⟨v10, h10, hf⟩ := jm_rd_ok hf
          refine jw_gI (Cn := RX7) (T := TX7) (N := 12) C hJ h10 rfl inX7_setData_X7 (by decide) (jm_w C 2 rfl) (fun _ h => h) dX7_setData_38 ?_
          obtain ⟨a11, o11, hf⟩ := jm_rd_ok hf
          obtain ⟨v11, S11, h11, hf⟩ := jm_bd_ok hf
          have e11 := moX4_find a11 v10 _ _ _ h11
          have g11 := jm_mo hf (jm_Mo_if (jm_Mo_ret _) (jm_Mo_rd (fun _ => jm_Mo_bd (moX0_hasVersion _ _) (fun _ => jm_Mo_if (jm_Mo_ret _) (jm_Mo_rd (fun _ => jm_Mo_rd (fun _ => jm_Mo_bd (moX7_propose _ _ _ _ _) (fun _ => jm_Mo_ret _))))))))
          refine jw_cV (q := (RX4, TX4, 2)) C hJ hS o11 rfl (cX4_find_C l G a11 v10 h11) (cwV 1 C.2.2.2.2.1 gX7_setData_X4_find rfl rfl rfl (by decide +kernel) ⟨Nat.le_of_ble_eq_true rfl, Nat.le_of_ble_eq_true rfl⟩) rfl hl.1 rfl (Nat.le_of_ble_eq_true rfl) dX7_setData_41 ⟨by show cells + 0 ≤ mc; omega, by show slots + 0 ≤ ms; omega⟩ (fun H locs hJ hS => ?_)
          replace hc1 : cells + 0 + n0 ≤ S11.2.1 := by omega
          replace hc2 : slots + 0 + m0 ≤ S11.2.2.1 := by omega
          generalize cells + 0 = cells at hc1 ⊢
          generalize slots + 0 = slots at hc2 ⊢
          refine jw_astore_n C dX7_setData_44 rfl hl (by decide) rfl (fun ls hl => ?_)
          refine jw_aload_n C dX7_setData_45 rfl (hl.at 0 rfl) ?_
          refine jw_ifnonnull (tgt := 52) C dX7_setData_46 (by decide) (fun hq12 => ?_) (fun hq12 => ?_)
          · replace hf := jm_iff hf hq12
            refine jw_aload_n C dX7_setData_52 rfl (hl.at 0 rfl) ?_
            refine lv_iload_n C.1 C.2.1 dX7_setData_53 rfl (hl.at 3 rfl) ?_
            obtain ⟨a13, o13, hf⟩ := jm_rd_ok hf
            obtain ⟨v13, S13, h13, hf⟩ := jm_bd_ok hf
            have e13 := moX0_hasVersion a13 x2 _ _ _ h13
            have g13 := jm_mo hf (jm_Mo_if (jm_Mo_ret _) (jm_Mo_rd (fun _ => jm_Mo_rd (fun _ => jm_Mo_bd (moX7_propose _ _ _ _ _) (fun _ => jm_Mo_ret _)))))
            refine jw_cV (q := (RX0, TX0, 4)) C hJ hS o13 rfl (cX0_hasVersion_C l G a13 x2 h13) (cwV 1 C.2.2.2.2.1 gX7_setData_X0_hasVersion rfl rfl rfl (by decide +kernel) ⟨Nat.le_of_ble_eq_true rfl, Nat.le_of_ble_eq_true rfl⟩) rfl hl.1 rfl (Nat.le_of_ble_eq_true rfl) dX7_setData_54 ⟨by show cells + 0 ≤ mc; omega, by show slots + 0 ≤ ms; omega⟩ (fun H locs hJ hS => ?_)
            replace hc1 : cells + 0 + n0 ≤ S13.2.1 := by omega
            replace hc2 : slots + 0 + m0 ≤ S13.2.2.1 := by omega
            generalize cells + 0 = cells at hc1 ⊢
            generalize slots + 0 = slots at hc2 ⊢
            refine lv_if_ne (tgt := 63) C.1 C.2.1 dX7_setData_57 (by decide) (fun hq14 => ?_) (fun hq14 => ?_)
            · replace hf := jm_iff hf hq14
              refine jw_aload_n C dX7_setData_63 rfl (hl.at 1 rfl) ?_
              refine lv_iconst (v := 1) C.1 C.2.1 dX7_setData_64 (by decide) ?_
              refine jw_aload_n C dX7_setData_65 rfl (hl.at 1 rfl) ?_
              obtain ⟨v15, h15, hf⟩ := jm_rd_ok hf
              refine jw_gI (Cn := RX7) (T := TX7) (N := 12) C hJ h15 rfl inX7_setData_X7 (by decide) (jm_w C 2 rfl) (fun _ h => h) dX7_setData_66 ?_
              refine lv_iload_n C.1 C.2.1 dX7_setData_69 rfl (hl.at 2 rfl) ?_
              refine lv_bipush (v := (-8)) C.1 C.2.1 dX7_setData_70 (by decide) ?_
              obtain ⟨a16, o16, hf⟩ := jm_rd_ok hf
              obtain ⟨v16, S16, h16, hf⟩ := jm_bd_ok hf
              have e16 := moX7_propose a16 1 v15 x1 (-8) _ _ _ h16
              have g16 := jm_mo hf (jm_Mo_ret _)
              refine jw_cV (q := (RX7, TX7, 12)) C hJ hS o16 rfl (cX7_propose_C l G a16 1 v15 x1 (-8) h16 (S16.2.1 - S13.2.1) (S16.2.2.1 - S13.2.2.1) (by omega) (by omega)) (cwV 4 C.2.2.2.2.1 gX7_setData_X7_propose rfl rfl rfl (by decide +kernel) ⟨Nat.le_of_ble_eq_true rfl, Nat.le_of_ble_eq_true rfl⟩) rfl hl.1 rfl (Nat.le_of_ble_eq_true rfl) dX7_setData_72 ⟨by show cells + _ ≤ mc; omega, by show slots + _ ≤ ms; omega⟩ (fun H locs hJ hS => ?_)
              replace hc1 : cells + (S16.2.1 - S13.2.1) + n0 ≤ S16.2.1 := by omega
              replace hc2 : slots + (S16.2.2.1 - S13.2.2.1) + m0 ≤ S16.2.2.1 := by omega
              generalize cells + (S16.2.1 - S13.2.1) = cells at hc1 ⊢
              generalize slots + (S16.2.2.1 - S13.2.2.1) = slots at hc2 ⊢
              obtain ⟨rfl, rfl⟩ := jm_ret_ok hf
              exact jw_ri C hJ hS (by omega) (by omega) dX7_setData_75
            · replace hf := jm_ift hf hq14
              refine lv_bipush (v := (-5)) C.1 C.2.1 dX7_setData_60 (by decide) ?_
              obtain ⟨rfl, rfl⟩ := jm_ret_ok hf
              exact jw_ri C hJ hS (by omega) (by omega) dX7_setData_62
          · replace hf := jm_ift hf hq12
            refine lv_bipush (v := (-3)) C.1 C.2.1 dX7_setData_49 (by decide) ?_
            obtain ⟨rfl, rfl⟩ := jm_ret_ok hf
            exact jw_ri C hJ hS (by omega) (by omega) dX7_setData_51
        · replace hf := jm_ift hf hq8
          refine lv_bipush (v := (-2)) C.1 C.2.1 dX7_setData_30 (by decide) ?_
          obtain ⟨rfl, rfl⟩ := jm_ret_ok hf
          exact jw_ri C hJ hS (by omega) (by omega) dX7_setData_32
    · replace hf := jm_ift hf hq4
      refine lv_iconst (v := (-1)) C.1 C.2.1 dX7_setData_14 (by decide) ?_
      obtain ⟨rfl, rfl⟩ := jm_ret_ok hf
      exact jw_ri C hJ hS (by omega) (by omega) dX7_setData_15
set_option maxHeartbeats 4000000 in
set_option maxRecDepth 100000 in
theorem cX7_setData_C (l : Launch) (G : jm_G) (h0 : Nat) (x1 : Int32) (x2 : Int32) {S Sf : jm_S} {rv : Int32} (hf : fX7_setData h0 x1 x2 S = some (rv, Sf)) (mc ms : Nat) (hr1 : Sf.2.1 ≤ S.2.1 + mc) (hr2 : Sf.2.2.1 ≤ S.2.2.1 + ms) : Met l yX7_setData wsX7_setData ({ frames := 8, cells := mc, slots := ms, locals := 197 } : Room) (jm_Pc G S [.ref h0, .int x1, .int x2]) (jm_Q G (some (.int rv)) Sf) mc ms (jm_A G) := by
  refine Met.ofW (cc := cX7_setData) (maxL := 4) (ret := (some .int)) (by decide) rfl ?_
  intro p e s m args below meth c s₁ B hml hv
  obtain ⟨rfl, hJ, hX⟩ := hv
  have C : jm_C G cX7_setData 4 RX7 wsX7_setData ((some .int)) p s m _ meth c := ⟨B.exec, B.bytes, hml, findClass_of_methodNamed B.named, atoms_spec (ws := wsX7_setData) B.pre, B.returns, B.notSynchronized, hX⟩
  obtain ⟨ls, he, hl⟩ := jm_entry m [.inr (some h0), .inl x1, .inl x2] (n := 4) (Nat.le_of_ble_eq_true rfl)
  have he : entryFrame m ([.ref h0, .int x1, .int x2] : List Value).toArray 4 = F0 m 0 ls [] := he
  rw [he]
  exact kX7_setData C (n0 := S.2.1) (m0 := S.2.2.1) hr1 hr2 h0 x1 x2 hf hJ va_S.rf (hl.sub [0, 1, 2] rfl) (by omega) (by omega)
/-! CoordinationService$Tree.countChildren -/
def fX4_countChildren_14 : Nat → Int32 → Int32 → Option Nat → Int32 → Int32 → jm_P Int32
  | 0, _, _, _, _, _ => jm_no
  | n + 1, x1, x2, x3, x4, x5 => (if x4 ≤ x5 then jm_ret x2 else jm_rd (jm_gq x3 2 x5) fun v4 => jm_rd (jm_gI v4 1 0) fun v5 => (if v5 = (-1) then fX4_countChildren_14 n x1 x2 x3 x4 (x5 + 1) else jm_rd (jm_gI v4 1 0) fun v7 => jm_bd (fX7_parentOf v7) fun v8 => (if v8 = x1 then fX4_countChildren_14 n x1 (x2 + 1) x3 x4 (x5 + 1) else fX4_countChildren_14 n x1 x2 x3 x4 (x5 + 1))))
def fX4_countChildren (h0 : Nat) (x1 : Int32) : jm_P Int32 := jm_rd (jm_gR (some h0) 5 1) fun v1 => jm_rd (jm_lq v1 2) fun v2 => fX4_countChildren_14 4096 x1 0 v1 v2 0
theorem inX4_countChildren_X4 : ∀ w ∈ wsX40, w ∈ wsX4_countChildren := fun _ h => List.mem_cons_of_mem _ (List.mem_append_left _ (List.mem_append_right _ h))
theorem inX4_countChildren_X0 : ∀ w ∈ wsX00, w ∈ wsX4_countChildren := fun _ h => List.mem_cons_of_mem _ (List.mem_append_right _ h)
theorem moX4_countChildren_14 : ∀ (n : Nat) (x1 : Int32) (x2 : Int32) (x3 : Option Nat) (x4 : Int32) (x5 : Int32), jm_Mo (fX4_countChildren_14 n x1 x2 x3 x4 x5) := by
  intro n
  induction n with
  | zero =>
    intro x1 x2 x3 x4 x5
    rw [fX4_countChildren_14]
    exact jm_Mo_no
  | succ n ih =>
    intro x1 x2 x3 x4 x5
    rw [fX4_countChildren_14]
    exact jm_Mo_if (jm_Mo_ret _) (jm_Mo_rd (fun _ => jm_Mo_rd (fun _ => jm_Mo_if (ih _ _ _ _ _) (jm_Mo_rd (fun _ => jm_Mo_bd (moX7_parentOf _) (fun _ => jm_Mo_if (ih _ _ _ _ _) (ih _ _ _ _ _)))))))
set_option maxHeartbeats 4000000 in
set_option maxRecDepth 100000 in
theorem kX4_countChildren_14 {rv : Int32} {Sf : jm_S} (C : jm_C G cX4_countChildren 7 RX4 wsX4_countChildren ((some .int)) p s m args meth c) : ∀ (n : Nat) (x1 : Int32) (x2 : Int32) (x3 : Option Nat) (x4 : Int32) (x5 : Int32) {S : jm_S} {H : Heap} {locs : List Loc} {ls : Array Slot}, fX4_countChildren_14 n x1 x2 x3 x4 x5 S = some (rv, Sf) → jm_J G S H → va_S (jm_A G) s.heap H locs → jm_L ls 7 [(1, .inl x1), (2, .inl x2), (3, .inr x3), (4, .inl x4), (5, .inl x5)] → W p l e ({ frames := 1, cells := 0, slots := 0, locals := 20 } : Room) s m args below meth c H locs 0 0 (MQ below (jm_Q G (some (.int rv)) Sf) args s 0 0 (jm_A G)) (F0 m 14 ls []) := by
  intro n
  induction n with
  | zero =>
    intro x1 x2 x3 x4 x5 S H locs ls hf
    rw [fX4_countChildren_14] at hf
    exact absurd hf (fun h => jm_no_ok h)
  | succ n ih =>
    intro x1 x2 x3 x4 x5 S H locs ls hf hJ hS hl
    rw [fX4_countChildren_14] at hf
    refine lv_iload C.1 C.2.1 dX4_countChildren_14 (hl.at 4 rfl) ?_
    refine lv_iload C.1 C.2.1 dX4_countChildren_16 (hl.at 3 rfl) ?_
    refine lv_icmp_ge (tgt := 57) C.1 C.2.1 dX4_countChildren_18 (by decide) (fun hq3 => ?_) (fun hq3 => ?_)
    · replace hf := jm_ift hf hq3
      refine lv_iload_n C.1 C.2.1 dX4_countChildren_57 rfl (hl.at 1 rfl) ?_
      obtain ⟨rfl, rfl⟩ := jm_ret_ok hf
      exact jw_ri C hJ hS (Nat.le_refl _) (Nat.le_refl _) dX4_countChildren_58
    · replace hf := jm_iff hf hq3
      refine jw_aload_n C dX4_countChildren_21 rfl (hl.at 2 rfl) ?_
      refine lv_iload C.1 C.2.1 dX4_countChildren_22 (hl.at 4 rfl) ?_
      obtain ⟨v4, h4, hf⟩ := jm_rd_ok hf
      refine jw_aaload C hJ h4 (by decide) rfl dX4_countChildren_24 ?_
      refine jw_astore C dX4_countChildren_25 hl (by decide) rfl (fun ls hl => ?_)
      refine jw_aload C dX4_countChildren_27 (hl.at 0 rfl) ?_
      obtain ⟨v5, h5, hf⟩ := jm_rd_ok hf
      refine jw_gI (Cn := RX0) (T := TX0) (N := 4) C hJ h5 rfl inX4_countChildren_X0 (by decide) (jm_w C 2 rfl) (fun _ h => h) dX4_countChildren_29 ?_
      refine lv_iconst (v := (-1)) C.1 C.2.1 dX4_countChildren_32 (by decide) ?_
      refine lv_icmp_eq (tgt := 51) C.1 C.2.1 dX4_countChildren_33 (by decide) (fun hq6 => ?_) (fun hq6 => ?_)
      · replace hf := jm_ift hf hq6
        refine jw_iinc (v := x5 + 1) C 5 dX4_countChildren_51 hl rfl (by rfl) (by decide) rfl (fun ls hl => ?_)
        refine lv_goto (tgt := 14) C.1 C.2.1 dX4_countChildren_54 (by decide) ?_
        exact ih x1 x2 x3 x4 (x5 + 1) hf hJ hS (hl.sub [2, 3, 4, 5, 0] rfl)
      · replace hf := jm_iff hf hq6
        refine jw_aload C dX4_countChildren_36 (hl.at 0 rfl) ?_
        obtain ⟨v7, h7, hf⟩ := jm_rd_ok hf
        refine jw_gI (Cn := RX0) (T := TX0) (N := 4) C hJ h7 rfl inX4_countChildren_X0 (by decide) (jm_w C 2 rfl) (fun _ h => h) dX4_countChildren_38 ?_
        obtain ⟨v8, S8, h8, hf⟩ := jm_bd_ok hf
        refine jw_cSN C hJ hS (cX7_parentOf_C l G v7 h8) (va_cnB 1 C.2.2.2.2.1 gX4_countChildren_X7_parentOf_n25 rfl rfl rfl C.2.2.2.2.2.2.2.2.2.2.2.2.2.2.2.2.2 (jm_w C 4 rfl) (by decide +kernel) ⟨Nat.le_of_ble_eq_true rfl, Nat.le_of_ble_eq_true rfl⟩) (jm_w C 3 rfl) rfl hl.1 rfl (Nat.le_of_ble_eq_true rfl) dX4_countChildren_41 ⟨Nat.le_refl _, Nat.le_refl _⟩ (fun H locs hJ hS => ?_)
        refine lv_iload_n C.1 C.2.1 dX4_countChildren_44 rfl (hl.at 1 rfl) ?_
        refine lv_icmp_ne (tgt := 51) C.1 C.2.1 dX4_countChildren_45 (by decide) (fun hq9 => ?_) (fun hq9 => ?_)
        · replace hf := jm_iff hf hq9
          refine jw_iinc (v := x5 + 1) C 5 dX4_countChildren_51 hl rfl (by rfl) (by decide) rfl (fun ls hl => ?_)
          refine lv_goto (tgt := 14) C.1 C.2.1 dX4_countChildren_54 (by decide) ?_
          exact ih x1 x2 x3 x4 (x5 + 1) hf hJ hS (hl.sub [2, 3, 4, 5, 0] rfl)
        · replace hf := jm_ift hf hq9
          refine jw_iinc (v := x2 + 1) C 2 dX4_countChildren_48 hl rfl (by rfl) (by decide) rfl (fun ls hl => ?_)
          refine jw_iinc (v := x5 + 1) C 5 dX4_countChildren_51 hl rfl (by rfl) (by decide) rfl (fun ls hl => ?_)
          refine lv_goto (tgt := 14) C.1 C.2.1 dX4_countChildren_54 (by decide) ?_
          exact ih x1 (x2 + 1) x3 x4 (x5 + 1) hf hJ hS (hl.sub [3, 1, 4, 5, 0] rfl)
theorem moX4_countChildren (h0 : Nat) (x1 : Int32) : jm_Mo (fX4_countChildren h0 x1) := by
  unfold fX4_countChildren
  exact jm_Mo_rd (fun _ => jm_Mo_rd (fun _ => moX4_countChildren_14 _ _ _ _ _ _))
set_option maxHeartbeats 4000000 in
set_option maxRecDepth 100000 in
theorem kX4_countChildren {rv : Int32} {Sf : jm_S} (C : jm_C G cX4_countChildren 7 RX4 wsX4_countChildren ((some .int)) p s m args meth c) : ∀ (h0 : Nat) (x1 : Int32) {S : jm_S} {H : Heap} {locs : List Loc} {ls : Array Slot}, fX4_countChildren h0 x1 S = some (rv, Sf) → jm_J G S H → va_S (jm_A G) s.heap H locs → jm_L ls 7 [(0, .inr (some h0)), (1, .inl x1)] → W p l e ({ frames := 1, cells := 0, slots := 0, locals := 20 } : Room) s m args below meth c H locs 0 0 (MQ below (jm_Q G (some (.int rv)) Sf) args s 0 0 (jm_A G)) (F0 m 0 ls []) := by
  intro h0 x1 S H locs ls hf hJ hS hl
  unfold fX4_countChildren at hf
  refine lv_iconst (v := 0) C.1 C.2.1 dX4_countChildren_0 (by decide) ?_
  refine jw_istore_n C dX4_countChildren_1 rfl hl (by decide) rfl (fun ls hl => ?_)
  refine jw_aload_n C dX4_countChildren_2 rfl (hl.at 1 rfl) ?_
  obtain ⟨v1, h1, hf⟩ := jm_rd_ok hf
  refine jw_gR (Cn := RX4) (T := TX4) (N := 2) C hJ h1 rfl inX4_countChildren_X4 (by decide) (jm_w C 1 rfl) (fun _ h => h) dX4_countChildren_3 ?_
  refine jw_astore_n C dX4_countChildren_6 rfl hl (by decide) rfl (fun ls hl => ?_)
  refine jw_aload_n C dX4_countChildren_7 rfl (hl.at 0 rfl) ?_
  obtain ⟨v2, h2, hf⟩ := jm_rd_ok hf
  refine jw_lq C hJ hS h2 (by decide) rfl dX4_countChildren_8 ?_
  refine jw_istore C dX4_countChildren_9 hl (by decide) rfl (fun ls hl => ?_)
  refine lv_iconst (v := 0) C.1 C.2.1 dX4_countChildren_11 (by decide) ?_
  refine jw_istore C dX4_countChildren_12 hl (by decide) rfl (fun ls hl => ?_)
  exact kX4_countChildren_14 C 4096 x1 0 v1 v2 0 hf hJ hS (hl.sub [5, 3, 2, 1, 0] rfl)
set_option maxHeartbeats 4000000 in
set_option maxRecDepth 100000 in
theorem cX4_countChildren_C (l : Launch) (G : jm_G) (h0 : Nat) (x1 : Int32) {S Sf : jm_S} {rv : Int32} (hf : fX4_countChildren h0 x1 S = some (rv, Sf)) : Met l yX4_countChildren wsX4_countChildren ({ frames := 1, cells := 0, slots := 0, locals := 20 } : Room) (jm_Pc G S [.ref h0, .int x1]) (jm_Q G (some (.int rv)) Sf) 0 0 (jm_A G) := by
  refine Met.ofW (cc := cX4_countChildren) (maxL := 7) (ret := (some .int)) (by decide) rfl ?_
  intro p e s m args below meth c s₁ B hml hv
  obtain ⟨rfl, hJ, hX⟩ := hv
  have C : jm_C G cX4_countChildren 7 RX4 wsX4_countChildren ((some .int)) p s m _ meth c := ⟨B.exec, B.bytes, hml, findClass_of_methodNamed B.named, atoms_spec (ws := wsX4_countChildren) B.pre, B.returns, B.notSynchronized, hX⟩
  obtain ⟨ls, he, hl⟩ := jm_entry m [.inr (some h0), .inl x1] (n := 7) (Nat.le_of_ble_eq_true rfl)
  have he : entryFrame m ([.ref h0, .int x1] : List Value).toArray 7 = F0 m 0 ls [] := he
  rw [he]
  exact kX4_countChildren C h0 x1 hf hJ va_S.rf (hl.sub [0, 1] rfl)
/-! CoordinationService.delete -/
def fX7_delete (h0 : Nat) (x1 : Int32) : jm_P Int32 := jm_bd (fX7_isVersion x1) fun v1 => (if v1 = 0 then jm_ret (-1) else jm_rd (jm_gR (some h0) 8 6) fun v3 => (if v3 = none then jm_ret (-2) else jm_rd (jm_gI (some h0) 8 10) fun v5 => (if v5 = 0 then jm_ret (-2) else jm_rd (jm_gR (some h0) 8 3) fun v7 => jm_rd (jm_gI (some h0) 8 10) fun v8 => jm_rd (jm_o v7 5) fun a9 => jm_bd (fX4_find a9 v8) fun v9 => (if v9 = none then jm_ret (-3) else jm_rd (jm_o v9 1) fun a11 => jm_bd (fX0_hasVersion a11 x1) fun v11 => (if v11 = 0 then jm_ret (-5) else jm_rd (jm_gR (some h0) 8 3) fun v13 => jm_rd (jm_gI (some h0) 8 10) fun v14 => jm_rd (jm_o v13 5) fun a15 => jm_bd (fX4_countChildren a15 v14) fun v15 => (if v15 ≤ 0 then jm_rd (jm_gI (some h0) 8 10) fun v17 => jm_rd (jm_o (some h0) 8) fun a18 => jm_bd (fX7_propose a18 2 v17 0 (-8)) fun v18 => jm_ret v18 else jm_ret (-6)))))))
theorem inX7_delete_X7 : ∀ w ∈ wsX70, w ∈ wsX7_delete := fun _ h => List.mem_cons_of_mem _ (List.mem_append_left _ (List.mem_append_left _ (List.mem_append_left _ (List.mem_append_left _ (List.mem_append_left _ (List.mem_append_left _ (List.mem_append_left _ (List.mem_append_left _ (List.mem_append_right _ h)))))))))
theorem moX7_delete (h0 : Nat) (x1 : Int32) : jm_Mo (fX7_delete h0 x1) := by
  unfold fX7_delete
  exact jm_Mo_bd (moX7_isVersion _) (fun _ => jm_Mo_if (jm_Mo_ret _) (jm_Mo_rd (fun _ => jm_Mo_if (jm_Mo_ret _) (jm_Mo_rd (fun _ => jm_Mo_if (jm_Mo_ret _) (jm_Mo_rd (fun _ => jm_Mo_rd (fun _ => jm_Mo_rd (fun _ => jm_Mo_bd (moX4_find _ _) (fun _ => jm_Mo_if (jm_Mo_ret _) (jm_Mo_rd (fun _ => jm_Mo_bd (moX0_hasVersion _ _) (fun _ => jm_Mo_if (jm_Mo_ret _) (jm_Mo_rd (fun _ => jm_Mo_rd (fun _ => jm_Mo_rd (fun _ => jm_Mo_bd (moX4_countChildren _ _) (fun _ => jm_Mo_if (jm_Mo_rd (fun _ => jm_Mo_rd (fun _ => jm_Mo_bd (moX7_propose _ _ _ _ _) (fun _ => jm_Mo_ret _)))) (jm_Mo_ret _)))))))))))))))))))
set_option maxHeartbeats 4000000 in
set_option maxRecDepth 100000 in
theorem kX7_delete {rv : Int32} {Sf : jm_S} (C : jm_C G cX7_delete 3 RX7 wsX7_delete ((some .int)) p s m args meth c) {n0 m0 mc ms : Nat} (hr1 : Sf.2.1 ≤ n0 + mc) (hr2 : Sf.2.2.1 ≤ m0 + ms) : ∀ (h0 : Nat) (x1 : Int32) {S : jm_S} {H : Heap} {locs : List Loc} {ls : Array Slot} {cells slots : Nat}, fX7_delete h0 x1 S = some (rv, Sf) → jm_J G S H → va_S (jm_A G) s.heap H locs → jm_L ls 3 [(0, .inr (some h0)), (1, .inl x1)] → cells + n0 ≤ S.2.1 → slots + m0 ≤ S.2.2.1 → W p l e ({ frames := 8, cells := mc, slots := ms, locals := 197 } : Room) s m args below meth c H locs cells slots (MQ below (jm_Q G (some (.int rv)) Sf) args s mc ms (jm_A G)) (F0 m 0 ls []) := by
  intro h0 x1 S H locs ls cells slots hf hJ hS hl hc1 hc2
  unfold fX7_delete at hf
  refine lv_iload_n C.1 C.2.1 dX7_delete_0 rfl (hl.at 1 rfl) ?_
  obtain ⟨v1, S1, h1, hf⟩ := jm_bd_ok hf
  have e1 := moX7_isVersion x1 _ _ _ h1
  have g1 := jm_mo hf (jm_Mo_if (jm_Mo_ret _) (jm_Mo_rd (fun _ => jm_Mo_if (jm_Mo_ret _) (jm_Mo_rd (fun _ => jm_Mo_if (jm_Mo_ret _) (jm_Mo_rd (fun _ => jm_Mo_rd (fun _ => jm_Mo_rd (fun _ => jm_Mo_bd (moX4_find _ _) (fun _ => jm_Mo_if (jm_Mo_ret _) (jm_Mo_rd (fun _ => jm_Mo_bd (moX0_hasVersion _ _) (fun _ => jm_Mo_if (jm_Mo_ret _) (jm_Mo_rd (fun _ => jm_Mo_rd (fun _ => jm_Mo_rd (fun _ => jm_Mo_bd (moX4_countChildren _ _) (fun _ => jm_Mo_if (jm_Mo_rd (fun _ => jm_Mo_rd (fun _ => jm_Mo_bd (moX7_propose _ _ _ _ _) (fun _ => jm_Mo_ret _)))) (jm_Mo_ret _)))))))))))))))))))
  refine jw_cS C hJ hS (cX7_isVersion_C l G x1 h1) (va_cwS 1 C.2.2.2.2.1 gX7_delete_X7_isVersion rfl rfl rfl (by decide +kernel) ⟨Nat.le_of_ble_eq_true rfl, Nat.le_of_ble_eq_true rfl⟩) rfl hl.1 rfl (Nat.le_of_ble_eq_true rfl) dX7_delete_1 ⟨by show cells + 0 ≤ mc; omega, by show slots + 0 ≤ ms; omega⟩ (fun H locs hJ hS => ?_)
  replace hc1 : cells + 0 + n0 ≤ S1.2.1 := by omega
  replace hc2 : slots + 0 + m0 ≤ S1.2.2.1 := by omega
  generalize cells + 0 = cells at hc1 ⊢
  generalize slots + 0 = slots at hc2 ⊢
  refine lv_if_ne (tgt := 9) C.1 C.2.1 dX7_delete_4 (by decide) (fun hq2 => ?_) (fun hq2 => ?_)
  · replace hf := jm_iff hf hq2
    refine jw_aload_n C dX7_delete_9 rfl (hl.at 0 rfl) ?_
    obtain ⟨v3, h3, hf⟩ := jm_rd_ok hf
    refine jw_gR (Cn := RX7) (T := TX7) (N := 12) C hJ h3 rfl inX7_delete_X7 (by decide) (jm_w C 1 rfl) (fun _ h => h) dX7_delete_10 ?_
    refine jw_ifnull (tgt := 23) C dX7_delete_13 (by decide) (fun hq4 => ?_) (fun hq4 => ?_)
    · replace hf := jm_ift hf hq4
      refine lv_bipush (v := (-2)) C.1 C.2.1 dX7_delete_23 (by decide) ?_
      obtain ⟨rfl, rfl⟩ := jm_ret_ok hf
      exact jw_ri C hJ hS (by omega) (by omega) dX7_delete_25
    · replace hf := jm_iff hf hq4
      refine jw_aload_n C dX7_delete_16 rfl (hl.at 0 rfl) ?_
      obtain ⟨v5, h5, hf⟩ := jm_rd_ok hf
      refine jw_gI (Cn := RX7) (T := TX7) (N := 12) C hJ h5 rfl inX7_delete_X7 (by decide) (jm_w C 2 rfl) (fun _ h => h) dX7_delete_17 ?_
      refine lv_if_ne (tgt := 26) C.1 C.2.1 dX7_delete_20 (by decide) (fun hq6 => ?_) (fun hq6 => ?_)
      · replace hf := jm_iff hf hq6
        refine jw_aload_n C dX7_delete_26 rfl (hl.at 0 rfl) ?_
        obtain ⟨v7, h7, hf⟩ := jm_rd_ok hf
        refine jw_gR (Cn := RX7) (T := TX7) (N := 12) C hJ h7 rfl inX7_delete_X7 (by decide) (jm_w C 3 rfl) (fun _ h => h) dX7_delete_27 ?_
        refine jw_aload_n C dX7_delete_30 rfl (hl.at 0 rfl) ?_
        obtain ⟨v8, h8, hf⟩ := jm_rd_ok hf
        refine jw_gI (Cn := RX7) (T := TX7) (N := 12) C hJ h8 rfl inX7_delete_X7 (by decide) (jm_w C 2 rfl) (fun _ h => h) dX7_delete_31 ?_
        obtain ⟨a9, o9, hf⟩ := jm_rd_ok hf
        obtain ⟨v9, S9, h9, hf⟩ := jm_bd_ok hf
        have e9 := moX4_find a9 v8 _ _ _ h9
        have g9 := jm_mo hf (jm_Mo_if (jm_Mo_ret _) (jm_Mo_rd (fun _ => jm_Mo_bd (moX0_hasVersion _ _) (fun _ => jm_Mo_if (jm_Mo_ret _) (jm_Mo_rd (fun _ => jm_Mo_rd (fun _ => jm_Mo_rd (fun _ => jm_Mo_bd (moX4_countChildren _ _) (fun _ => jm_Mo_if (jm_Mo_rd (fun _ => jm_Mo_rd (fun _ => jm_Mo_bd (moX7_propose _ _ _ _ _) (fun _ => jm_Mo_ret _)))) (jm_Mo_ret _))))))))))
        refine jw_cV (q := (RX4, TX4, 2)) C hJ hS o9 rfl (cX4_find_C l G a9 v8 h9) (cwV 1 C.2.2.2.2.1 gX7_delete_X4_find rfl rfl rfl (by decide +kernel) ⟨Nat.le_of_ble_eq_true rfl, Nat.le_of_ble_eq_true rfl⟩) rfl hl.1 rfl (Nat.le_of_ble_eq_true rfl) dX7_delete_34 ⟨by show cells + 0 ≤ mc; omega, by show slots + 0 ≤ ms; omega⟩ (fun H locs hJ hS => ?_)
        replace hc1 : cells + 0 + n0 ≤ S9.2.1 := by omega
        replace hc2 : slots + 0 + m0 ≤ S9.2.2.1 := by omega
        generalize cells + 0 = cells at hc1 ⊢
        generalize slots + 0 = slots at hc2 ⊢
        refine jw_astore_n C dX7_delete_37 rfl hl (by decide) rfl (fun ls hl => ?_)
        refine jw_aload_n C dX7_delete_38 rfl (hl.at 0 rfl) ?_
        refine jw_ifnonnull (tgt := 45) C dX7_delete_39 (by decide) (fun hq10 => ?_) (fun hq10 => ?_)
        · replace hf := jm_iff hf hq10
          refine jw_aload_n C dX7_delete_45 rfl (hl.at 0 rfl) ?_
          refine lv_iload_n C.1 C.2.1 dX7_delete_46 rfl (hl.at 2 rfl) ?_
          obtain ⟨a11, o11, hf⟩ := jm_rd_ok hf
          obtain ⟨v11, S11, h11, hf⟩ := jm_bd_ok hf
          have e11 := moX0_hasVersion a11 x1 _ _ _ h11
          have g11 := jm_mo hf (jm_Mo_if (jm_Mo_ret _) (jm_Mo_rd (fun _ => jm_Mo_rd (fun _ => jm_Mo_rd (fun _ => jm_Mo_bd (moX4_countChildren _ _) (fun _ => jm_Mo_if (jm_Mo_rd (fun _ => jm_Mo_rd (fun _ => jm_Mo_bd (moX7_propose _ _ _ _ _) (fun _ => jm_Mo_ret _)))) (jm_Mo_ret _)))))))
          refine jw_cV (q := (RX0, TX0, 4)) C hJ hS o11 rfl (cX0_hasVersion_C l G a11 x1 h11) (cwV 1 C.2.2.2.2.1 gX7_delete_X0_hasVersion rfl rfl rfl (by decide +kernel) ⟨Nat.le_of_ble_eq_true rfl, Nat.le_of_ble_eq_true rfl⟩) rfl hl.1 rfl (Nat.le_of_ble_eq_true rfl) dX7_delete_47 ⟨by show cells + 0 ≤ mc; omega, by show slots + 0 ≤ ms; omega⟩ (fun H locs hJ hS => ?_)
          replace hc1 : cells + 0 + n0 ≤ S11.2.1 := by omega
          replace hc2 : slots + 0 + m0 ≤ S11.2.2.1 := by omega
          generalize cells + 0 = cells at hc1 ⊢
          generalize slots + 0 = slots at hc2 ⊢
          refine lv_if_ne (tgt := 56) C.1 C.2.1 dX7_delete_50 (by decide) (fun hq12 => ?_) (fun hq12 => ?_)
          · replace hf := jm_iff hf hq12
            refine jw_aload_n C dX7_delete_56 rfl (hl.at 1 rfl) ?_
            obtain ⟨v13, h13, hf⟩ := jm_rd_ok hf
            refine jw_gR (Cn := RX7) (T := TX7) (N := 12) C hJ h13 rfl inX7_delete_X7 (by decide) (jm_w C 3 rfl) (fun _ h => h) dX7_delete_57 ?_
            refine jw_aload_n C dX7_delete_60 rfl (hl.at 1 rfl) ?_
            obtain ⟨v14, h14, hf⟩ := jm_rd_ok hf
            refine jw_gI (Cn := RX7) (T := TX7) (N := 12) C hJ h14 rfl inX7_delete_X7 (by decide) (jm_w C 2 rfl) (fun _ h => h) dX7_delete_61 ?_
            obtain ⟨a15, o15, hf⟩ := jm_rd_ok hf
            obtain ⟨v15, S15, h15, hf⟩ := jm_bd_ok hf
            have e15 := moX4_countChildren a15 v14 _ _ _ h15
            have g15 := jm_mo hf (jm_Mo_if (jm_Mo_rd (fun _ => jm_Mo_rd (fun _ => jm_Mo_bd (moX7_propose _ _ _ _ _) (fun _ => jm_Mo_ret _)))) (jm_Mo_ret _))
            refine jw_cV (q := (RX4, TX4, 2)) C hJ hS o15 rfl (cX4_countChildren_C l G a15 v14 h15) (cwV 1 C.2.2.2.2.1 gX7_delete_X4_countChildren rfl rfl rfl (by decide +kernel) ⟨Nat.le_of_ble_eq_true rfl, Nat.le_of_ble_eq_true rfl⟩) rfl hl.1 rfl (Nat.le_of_ble_eq_true rfl) dX7_delete_64 ⟨by show cells + 0 ≤ mc; omega, by show slots + 0 ≤ ms; omega⟩ (fun H locs hJ hS => ?_)
            replace hc1 : cells + 0 + n0 ≤ S15.2.1 := by omega
            replace hc2 : slots + 0 + m0 ≤ S15.2.2.1 := by omega
            generalize cells + 0 = cells at hc1 ⊢
            generalize slots + 0 = slots at hc2 ⊢
            refine lv_if_le (tgt := 73) C.1 C.2.1 dX7_delete_67 (by decide) (fun hq16 => ?_) (fun hq16 => ?_)
            · replace hf := jm_ift hf hq16
              refine jw_aload_n C dX7_delete_73 rfl (hl.at 1 rfl) ?_
              refine lv_iconst (v := 2) C.1 C.2.1 dX7_delete_74 (by decide) ?_
              refine jw_aload_n C dX7_delete_75 rfl (hl.at 1 rfl) ?_
              obtain ⟨v17, h17, hf⟩ := jm_rd_ok hf
              refine jw_gI (Cn := RX7) (T := TX7) (N := 12) C hJ h17 rfl inX7_delete_X7 (by decide) (jm_w C 2 rfl) (fun _ h => h) dX7_delete_76 ?_
              refine lv_iconst (v := 0) C.1 C.2.1 dX7_delete_79 (by decide) ?_
              refine lv_bipush (v := (-8)) C.1 C.2.1 dX7_delete_80 (by decide) ?_
              obtain ⟨a18, o18, hf⟩ := jm_rd_ok hf
              obtain ⟨v18, S18, h18, hf⟩ := jm_bd_ok hf
              have e18 := moX7_propose a18 2 v17 0 (-8) _ _ _ h18
              have g18 := jm_mo hf (jm_Mo_ret _)
              refine jw_cV (q := (RX7, TX7, 12)) C hJ hS o18 rfl (cX7_propose_C l G a18 2 v17 0 (-8) h18 (S18.2.1 - S15.2.1) (S18.2.2.1 - S15.2.2.1) (by omega) (by omega)) (cwV 4 C.2.2.2.2.1 gX7_delete_X7_propose rfl rfl rfl (by decide +kernel) ⟨Nat.le_of_ble_eq_true rfl, Nat.le_of_ble_eq_true rfl⟩) rfl hl.1 rfl (Nat.le_of_ble_eq_true rfl) dX7_delete_82 ⟨by show cells + _ ≤ mc; omega, by show slots + _ ≤ ms; omega⟩ (fun H locs hJ hS => ?_)
              replace hc1 : cells + (S18.2.1 - S15.2.1) + n0 ≤ S18.2.1 := by omega
              replace hc2 : slots + (S18.2.2.1 - S15.2.2.1) + m0 ≤ S18.2.2.1 := by omega
              generalize cells + (S18.2.1 - S15.2.1) = cells at hc1 ⊢
              generalize slots + (S18.2.2.1 - S15.2.2.1) = slots at hc2 ⊢
              obtain ⟨rfl, rfl⟩ := jm_ret_ok hf
              exact jw_ri C hJ hS (by omega) (by omega) dX7_delete_85
            · replace hf := jm_iff hf hq16
              refine lv_bipush (v := (-6)) C.1 C.2.1 dX7_delete_70 (by decide) ?_
              obtain ⟨rfl, rfl⟩ := jm_ret_ok hf
              exact jw_ri C hJ hS (by omega) (by omega) dX7_delete_72
          · replace hf := jm_ift hf hq12
            refine lv_bipush (v := (-5)) C.1 C.2.1 dX7_delete_53 (by decide) ?_
            obtain ⟨rfl, rfl⟩ := jm_ret_ok hf
            exact jw_ri C hJ hS (by omega) (by omega) dX7_delete_55
        · replace hf := jm_ift hf hq10
          refine lv_bipush (v := (-3)) C.1 C.2.1 dX7_delete_42 (by decide) ?_
          obtain ⟨rfl, rfl⟩ := jm_ret_ok hf
          exact jw_ri C hJ hS (by omega) (by omega) dX7_delete_44
      · replace hf := jm_ift hf hq6
        refine lv_bipush (v := (-2)) C.1 C.2.1 dX7_delete_23 (by decide) ?_
        obtain ⟨rfl, rfl⟩ := jm_ret_ok hf
        exact jw_ri C hJ hS (by omega) (by omega) dX7_delete_25
  · replace hf := jm_ift hf hq2
    refine lv_iconst (v := (-1)) C.1 C.2.1 dX7_delete_7 (by decide) ?_
    obtain ⟨rfl, rfl⟩ := jm_ret_ok hf
    exact jw_ri C hJ hS (by omega) (by omega) dX7_delete_8
set_option maxHeartbeats 4000000 in
set_option maxRecDepth 100000 in
theorem cX7_delete_C (l : Launch) (G : jm_G) (h0 : Nat) (x1 : Int32) {S Sf : jm_S} {rv : Int32} (hf : fX7_delete h0 x1 S = some (rv, Sf)) (mc ms : Nat) (hr1 : Sf.2.1 ≤ S.2.1 + mc) (hr2 : Sf.2.2.1 ≤ S.2.2.1 + ms) : Met l yX7_delete wsX7_delete ({ frames := 8, cells := mc, slots := ms, locals := 197 } : Room) (jm_Pc G S [.ref h0, .int x1]) (jm_Q G (some (.int rv)) Sf) mc ms (jm_A G) := by
  refine Met.ofW (cc := cX7_delete) (maxL := 3) (ret := (some .int)) (by decide) rfl ?_
  intro p e s m args below meth c s₁ B hml hv
  obtain ⟨rfl, hJ, hX⟩ := hv
  have C : jm_C G cX7_delete 3 RX7 wsX7_delete ((some .int)) p s m _ meth c := ⟨B.exec, B.bytes, hml, findClass_of_methodNamed B.named, atoms_spec (ws := wsX7_delete) B.pre, B.returns, B.notSynchronized, hX⟩
  obtain ⟨ls, he, hl⟩ := jm_entry m [.inr (some h0), .inl x1] (n := 3) (Nat.le_of_ble_eq_true rfl)
  have he : entryFrame m ([.ref h0, .int x1] : List Value).toArray 3 = F0 m 0 ls [] := he
  rw [he]
  exact kX7_delete C (n0 := S.2.1) (m0 := S.2.2.1) hr1 hr2 h0 x1 hf hJ va_S.rf (hl.sub [0, 1] rfl) (by omega) (by omega)
/-! CoordinationService$Session.forgetEvents -/
def fX2_forgetEvents (h0 : Nat) : jm_P Unit := jm_wr (jm_p (some h0) 3 1 (.inl 0)) <| jm_ret ()
theorem inX2_forgetEvents_X2 : ∀ w ∈ wsX20, w ∈ wsX2_forgetEvents := fun _ h => List.mem_cons_of_mem _ (List.mem_append_right _ h)
theorem moX2_forgetEvents (h0 : Nat) : jm_Mo (fX2_forgetEvents h0) := by
  unfold fX2_forgetEvents
  exact jm_Mo_wr jm_p_st (jm_Mo_ret _)
set_option maxHeartbeats 4000000 in
set_option maxRecDepth 100000 in
theorem kX2_forgetEvents {rv : Unit} {Sf : jm_S} (C : jm_C G cX2_forgetEvents 1 RX2 wsX2_forgetEvents (none) p s m args meth c) : ∀ (h0 : Nat) {S : jm_S} {H : Heap} {locs : List Loc} {ls : Array Slot}, fX2_forgetEvents h0 S = some (rv, Sf) → jm_J G S H → va_S (jm_A G) s.heap H locs → jm_L ls 1 [(0, .inr (some h0))] → W p l e ({ frames := 0, cells := 0, slots := 0, locals := 0 } : Room) s m args below meth c H locs 0 0 (MQ below (jm_Q G (none) Sf) args s 0 0 (jm_A G)) (F0 m 0 ls []) := by
  intro h0 S H locs ls hf hJ hS hl
  unfold fX2_forgetEvents at hf
  refine jw_aload_n C dX2_forgetEvents_0 rfl (hl.at 0 rfl) ?_
  refine lv_iconst (v := 0) C.1 C.2.1 dX2_forgetEvents_1 (by decide) ?_
  obtain ⟨S1, h1, hf⟩ := jm_wr_ok hf
  refine jw_p (x := .inl 0) (ty := .int) (Cn := RX2) (T := TX2) (N := 3) C hJ hS h1 rfl inX2_forgetEvents_X2 tyX2 tyX2_ok nmX2 (by decide) (jm_w C 1 rfl) (fun _ h => h) rfl (by decide +kernel) rfl rfl dX2_forgetEvents_2 (fun H locs hJ hS => ?_)
  obtain ⟨rfl, rfl⟩ := jm_ret_ok hf
  exact jw_rv C hJ hS (Nat.le_refl _) (Nat.le_refl _) dX2_forgetEvents_5
set_option maxHeartbeats 4000000 in
set_option maxRecDepth 100000 in
theorem cX2_forgetEvents_C (l : Launch) (G : jm_G) (h0 : Nat) {S Sf : jm_S} {rv : Unit} (hf : fX2_forgetEvents h0 S = some (rv, Sf)) : Met l yX2_forgetEvents wsX2_forgetEvents ({ frames := 0, cells := 0, slots := 0, locals := 0 } : Room) (jm_Pc G S [.ref h0]) (jm_Q G (none) Sf) 0 0 (jm_A G) := by
  refine Met.ofW (cc := cX2_forgetEvents) (maxL := 1) (ret := none) (by decide) rfl ?_
  intro p e s m args below meth c s₁ B hml hv
  obtain ⟨rfl, hJ, hX⟩ := hv
  have C : jm_C G cX2_forgetEvents 1 RX2 wsX2_forgetEvents (none) p s m _ meth c := ⟨B.exec, B.bytes, hml, findClass_of_methodNamed B.named, atoms_spec (ws := wsX2_forgetEvents) B.pre, B.returns, B.notSynchronized, hX⟩
  obtain ⟨ls, he, hl⟩ := jm_entry m [.inr (some h0)] (n := 1) (Nat.le_of_ble_eq_true rfl)
  have he : entryFrame m ([.ref h0] : List Value).toArray 1 = F0 m 0 ls [] := he
  rw [he]
  exact kX2_forgetEvents C h0 hf hJ va_S.rf (hl.sub [0] rfl)
/-! CoordinationService.openSession -/
def fX7_openSession (h0 : Nat) : jm_P Int32 := jm_rd (jm_gI (some h0) 8 5) fun v1 => (if v1 < 6 then jm_rd (jm_gR (some h0) 8 1) fun v3 => jm_rd (jm_gI (some h0) 8 5) fun v4 => jm_rd (jm_gq v3 4 v4) fun v5 => jm_rd (jm_o v5 3) fun a6 => jm_bd (fX2_forgetEvents a6) fun _ => jm_rd (jm_gI (some h0) 8 5) fun v7 => jm_wr (jm_p (some h0) 8 5 (.inl (v7 + 1))) <| jm_rd (jm_gI v5 3 0) fun v9 => jm_ret v9 else jm_ret (-7))
theorem inX7_openSession_X7 : ∀ w ∈ wsX70, w ∈ wsX7_openSession := fun _ h => List.mem_cons_of_mem _ (List.mem_append_left _ (List.mem_append_right _ h))
theorem inX7_openSession_X2 : ∀ w ∈ wsX20, w ∈ wsX7_openSession := fun _ h => List.mem_cons_of_mem _ (List.mem_append_right _ h)
theorem moX7_openSession (h0 : Nat) : jm_Mo (fX7_openSession h0) := by
  unfold fX7_openSession
  exact jm_Mo_rd (fun _ => jm_Mo_if (jm_Mo_rd (fun _ => jm_Mo_rd (fun _ => jm_Mo_rd (fun _ => jm_Mo_rd (fun _ => jm_Mo_bd (moX2_forgetEvents _) (fun _ => jm_Mo_rd (fun _ => jm_Mo_wr jm_p_st (jm_Mo_rd (fun _ => jm_Mo_ret _))))))))) (jm_Mo_ret _))
set_option maxHeartbeats 4000000 in
set_option maxRecDepth 100000 in
theorem kX7_openSession {rv : Int32} {Sf : jm_S} (C : jm_C G cX7_openSession 2 RX7 wsX7_openSession ((some .int)) p s m args meth c) : ∀ (h0 : Nat) {S : jm_S} {H : Heap} {locs : List Loc} {ls : Array Slot}, fX7_openSession h0 S = some (rv, Sf) → jm_J G S H → va_S (jm_A G) s.heap H locs → jm_L ls 2 [(0, .inr (some h0))] → W p l e ({ frames := 1, cells := 0, slots := 0, locals := 20 } : Room) s m args below meth c H locs 0 0 (MQ below (jm_Q G (some (.int rv)) Sf) args s 0 0 (jm_A G)) (F0 m 0 ls []) := by
  intro h0 S H locs ls hf hJ hS hl
  unfold fX7_openSession at hf
  refine jw_aload_n C dX7_openSession_0 rfl (hl.at 0 rfl) ?_
  obtain ⟨v1, h1, hf⟩ := jm_rd_ok hf
  refine jw_gI (Cn := RX7) (T := TX7) (N := 12) C hJ h1 rfl inX7_openSession_X7 (by decide) (jm_w C 1 rfl) (fun _ h => h) dX7_openSession_1 ?_
  refine lv_bipush (v := 6) C.1 C.2.1 dX7_openSession_4 (by decide) ?_
  refine lv_icmp_lt (tgt := 12) C.1 C.2.1 dX7_openSession_6 (by decide) (fun hq2 => ?_) (fun hq2 => ?_)
  · replace hf := jm_ift hf hq2
    refine jw_aload_n C dX7_openSession_12 rfl (hl.at 0 rfl) ?_
    obtain ⟨v3, h3, hf⟩ := jm_rd_ok hf
    refine jw_gR (Cn := RX7) (T := TX7) (N := 12) C hJ h3 rfl inX7_openSession_X7 (by decide) (jm_w C 2 rfl) (fun _ h => h) dX7_openSession_13 ?_
    refine jw_aload_n C dX7_openSession_16 rfl (hl.at 0 rfl) ?_
    obtain ⟨v4, h4, hf⟩ := jm_rd_ok hf
    refine jw_gI (Cn := RX7) (T := TX7) (N := 12) C hJ h4 rfl inX7_openSession_X7 (by decide) (jm_w C 1 rfl) (fun _ h => h) dX7_openSession_17 ?_
    obtain ⟨v5, h5, hf⟩ := jm_rd_ok hf
    refine jw_aaload C hJ h5 (by decide) rfl dX7_openSession_20 ?_
    refine jw_astore_n C dX7_openSession_21 rfl hl (by decide) rfl (fun ls hl => ?_)
    refine jw_aload_n C dX7_openSession_22 rfl (hl.at 0 rfl) ?_
    obtain ⟨a6, o6, hf⟩ := jm_rd_ok hf
    obtain ⟨v6, S6, h6, hf⟩ := jm_bd_ok hf
    refine jw_cV (q := (RX2, TX2, 3)) C hJ hS o6 rfl (cX2_forgetEvents_C l G a6 h6) (cwV 0 C.2.2.2.2.1 gX7_openSession_X2_forgetEvents rfl rfl rfl (by decide +kernel) ⟨Nat.le_of_ble_eq_true rfl, Nat.le_of_ble_eq_true rfl⟩) rfl hl.1 rfl (Nat.le_of_ble_eq_true rfl) dX7_openSession_23 ⟨Nat.le_refl _, Nat.le_refl _⟩ (fun H locs hJ hS => ?_)
    refine jw_aload_n C dX7_openSession_26 rfl (hl.at 1 rfl) ?_
    refine lv_dup C.1 C.2.1 dX7_openSession_27 (jm_catr _) ?_
    obtain ⟨v7, h7, hf⟩ := jm_rd_ok hf
    refine jw_gI (Cn := RX7) (T := TX7) (N := 12) C hJ h7 rfl inX7_openSession_X7 (by decide) (jm_w C 1 rfl) (fun _ h => h) dX7_openSession_28 ?_
    refine lv_iconst (v := 1) C.1 C.2.1 dX7_openSession_31 (by decide) ?_
    refine lv_iadd C.1 C.2.1 dX7_openSession_32 ?_
    obtain ⟨S8, h8, hf⟩ := jm_wr_ok hf
    refine jw_p (x := .inl (v7 + 1)) (ty := .int) (Cn := RX7) (T := TX7) (N := 12) C hJ hS h8 rfl inX7_openSession_X7 tyX7 tyX7_ok nmX7 (by decide) (jm_w C 1 rfl) (fun _ h => h) rfl (by decide +kernel) rfl rfl dX7_openSession_33 (fun H locs hJ hS => ?_)
    refine jw_aload_n C dX7_openSession_36 rfl (hl.at 0 rfl) ?_
    obtain ⟨v9, h9, hf⟩ := jm_rd_ok hf
    refine jw_gI (Cn := RX2) (T := TX2) (N := 3) C hJ h9 rfl inX7_openSession_X2 (by decide) (jm_w C 3 rfl) (fun _ h => h) dX7_openSession_37 ?_
    obtain ⟨rfl, rfl⟩ := jm_ret_ok hf
    exact jw_ri C hJ hS (Nat.le_refl _) (Nat.le_refl _) dX7_openSession_40
  · replace hf := jm_iff hf hq2
    refine lv_bipush (v := (-7)) C.1 C.2.1 dX7_openSession_9 (by decide) ?_
    obtain ⟨rfl, rfl⟩ := jm_ret_ok hf
    exact jw_ri C hJ hS (Nat.le_refl _) (Nat.le_refl _) dX7_openSession_11
set_option maxHeartbeats 4000000 in
set_option maxRecDepth 100000 in
theorem cX7_openSession_C (l : Launch) (G : jm_G) (h0 : Nat) {S Sf : jm_S} {rv : Int32} (hf : fX7_openSession h0 S = some (rv, Sf)) : Met l yX7_openSession wsX7_openSession ({ frames := 1, cells := 0, slots := 0, locals := 20 } : Room) (jm_Pc G S [.ref h0]) (jm_Q G (some (.int rv)) Sf) 0 0 (jm_A G) := by
  refine Met.ofW (cc := cX7_openSession) (maxL := 2) (ret := (some .int)) (by decide) rfl ?_
  intro p e s m args below meth c s₁ B hml hv
  obtain ⟨rfl, hJ, hX⟩ := hv
  have C : jm_C G cX7_openSession 2 RX7 wsX7_openSession ((some .int)) p s m _ meth c := ⟨B.exec, B.bytes, hml, findClass_of_methodNamed B.named, atoms_spec (ws := wsX7_openSession) B.pre, B.returns, B.notSynchronized, hX⟩
  obtain ⟨ls, he, hl⟩ := jm_entry m [.inr (some h0)] (n := 2) (Nat.le_of_ble_eq_true rfl)
  have he : entryFrame m ([.ref h0] : List Value).toArray 2 = F0 m 0 ls [] := he
  rw [he]
  exact kX7_openSession C h0 hf hJ va_S.rf (hl.sub [0] rfl)
/-! CoordinationService.closeSession -/
def fX7_closeSession (h0 : Nat) (x1 : Int32) : jm_P Int32 := jm_rd (jm_o (some h0) 8) fun a1 => jm_bd (fX7_findSession a1 x1) fun v1 => (if v1 = none then jm_ret (-1) else jm_rd (jm_gR (some h0) 8 6) fun v3 => (if v3 = none then jm_ret (-2) else jm_rd (jm_gR (some h0) 8 6) fun v5 => jm_rd (jm_o v5 2) fun a6 => jm_bd (fX1_hasClosed a6 x1) fun v6 => (if v6 = 0 then jm_rd (jm_o (some h0) 8) fun a8 => jm_bd (fX7_propose a8 3 0 0 x1) fun v8 => jm_ret v8 else jm_ret (-2))))
theorem inX7_closeSession_X7 : ∀ w ∈ wsX70, w ∈ wsX7_closeSession := fun _ h => List.mem_cons_of_mem _ (List.mem_append_left _ (List.mem_append_left _ (List.mem_append_left _ (List.mem_append_left _ (List.mem_append_left _ (List.mem_append_left _ (List.mem_append_left _ (List.mem_append_left _ (List.mem_append_right _ h)))))))))
theorem moX7_closeSession (h0 : Nat) (x1 : Int32) : jm_Mo (fX7_closeSession h0 x1) := by
  unfold fX7_closeSession
  exact jm_Mo_rd (fun _ => jm_Mo_bd (moX7_findSession _ _) (fun _ => jm_Mo_if (jm_Mo_ret _) (jm_Mo_rd (fun _ => jm_Mo_if (jm_Mo_ret _) (jm_Mo_rd (fun _ => jm_Mo_rd (fun _ => jm_Mo_bd (moX1_hasClosed _ _) (fun _ => jm_Mo_if (jm_Mo_rd (fun _ => jm_Mo_bd (moX7_propose _ _ _ _ _) (fun _ => jm_Mo_ret _))) (jm_Mo_ret _)))))))))
set_option maxHeartbeats 4000000 in
set_option maxRecDepth 100000 in
theorem kX7_closeSession {rv : Int32} {Sf : jm_S} (C : jm_C G cX7_closeSession 2 RX7 wsX7_closeSession ((some .int)) p s m args meth c) {n0 m0 mc ms : Nat} (hr1 : Sf.2.1 ≤ n0 + mc) (hr2 : Sf.2.2.1 ≤ m0 + ms) : ∀ (h0 : Nat) (x1 : Int32) {S : jm_S} {H : Heap} {locs : List Loc} {ls : Array Slot} {cells slots : Nat}, fX7_closeSession h0 x1 S = some (rv, Sf) → jm_J G S H → va_S (jm_A G) s.heap H locs → jm_L ls 2 [(0, .inr (some h0)), (1, .inl x1)] → cells + n0 ≤ S.2.1 → slots + m0 ≤ S.2.2.1 → W p l e ({ frames := 8, cells := mc, slots := ms, locals := 197 } : Room) s m args below meth c H locs cells slots (MQ below (jm_Q G (some (.int rv)) Sf) args s mc ms (jm_A G)) (F0 m 0 ls []) := by
  intro h0 x1 S H locs ls cells slots hf hJ hS hl hc1 hc2
  unfold fX7_closeSession at hf
  refine jw_aload_n C dX7_closeSession_0 rfl (hl.at 0 rfl) ?_
  refine lv_iload_n C.1 C.2.1 dX7_closeSession_1 rfl (hl.at 1 rfl) ?_
  obtain ⟨a1, o1, hf⟩ := jm_rd_ok hf
  obtain ⟨v1, S1, h1, hf⟩ := jm_bd_ok hf
  have e1 := moX7_findSession a1 x1 _ _ _ h1
  have g1 := jm_mo hf (jm_Mo_if (jm_Mo_ret _) (jm_Mo_rd (fun _ => jm_Mo_if (jm_Mo_ret _) (jm_Mo_rd (fun _ => jm_Mo_rd (fun _ => jm_Mo_bd (moX1_hasClosed _ _) (fun _ => jm_Mo_if (jm_Mo_rd (fun _ => jm_Mo_bd (moX7_propose _ _ _ _ _) (fun _ => jm_Mo_ret _))) (jm_Mo_ret _))))))))
  refine jw_cV (q := (RX7, TX7, 12)) C hJ hS o1 rfl (cX7_findSession_C l G a1 x1 h1) (cwV 1 C.2.2.2.2.1 gX7_closeSession_X7_findSession rfl rfl rfl (by decide +kernel) ⟨Nat.le_of_ble_eq_true rfl, Nat.le_of_ble_eq_true rfl⟩) rfl hl.1 rfl (Nat.le_of_ble_eq_true rfl) dX7_closeSession_2 ⟨by show cells + 0 ≤ mc; omega, by show slots + 0 ≤ ms; omega⟩ (fun H locs hJ hS => ?_)
  replace hc1 : cells + 0 + n0 ≤ S1.2.1 := by omega
  replace hc2 : slots + 0 + m0 ≤ S1.2.2.1 := by omega
  generalize cells + 0 = cells at hc1 ⊢
  generalize slots + 0 = slots at hc2 ⊢
  refine jw_ifnonnull (tgt := 10) C dX7_closeSession_5 (by decide) (fun hq2 => ?_) (fun hq2 => ?_)
  · replace hf := jm_iff hf hq2
    refine jw_aload_n C dX7_closeSession_10 rfl (hl.at 0 rfl) ?_
    obtain ⟨v3, h3, hf⟩ := jm_rd_ok hf
    refine jw_gR (Cn := RX7) (T := TX7) (N := 12) C hJ h3 rfl inX7_closeSession_X7 (by decide) (jm_w C 1 rfl) (fun _ h => h) dX7_closeSession_11 ?_
    refine jw_ifnull (tgt := 28) C dX7_closeSession_14 (by decide) (fun hq4 => ?_) (fun hq4 => ?_)
    · replace hf := jm_ift hf hq4
      refine lv_bipush (v := (-2)) C.1 C.2.1 dX7_closeSession_28 (by decide) ?_
      obtain ⟨rfl, rfl⟩ := jm_ret_ok hf
      exact jw_ri C hJ hS (by omega) (by omega) dX7_closeSession_30
    · replace hf := jm_iff hf hq4
      refine jw_aload_n C dX7_closeSession_17 rfl (hl.at 0 rfl) ?_
      obtain ⟨v5, h5, hf⟩ := jm_rd_ok hf
      refine jw_gR (Cn := RX7) (T := TX7) (N := 12) C hJ h5 rfl inX7_closeSession_X7 (by decide) (jm_w C 1 rfl) (fun _ h => h) dX7_closeSession_18 ?_
      refine lv_iload_n C.1 C.2.1 dX7_closeSession_21 rfl (hl.at 1 rfl) ?_
      obtain ⟨a6, o6, hf⟩ := jm_rd_ok hf
      obtain ⟨v6, S6, h6, hf⟩ := jm_bd_ok hf
      have e6 := moX1_hasClosed a6 x1 _ _ _ h6
      have g6 := jm_mo hf (jm_Mo_if (jm_Mo_rd (fun _ => jm_Mo_bd (moX7_propose _ _ _ _ _) (fun _ => jm_Mo_ret _))) (jm_Mo_ret _))
      refine jw_cV (q := (RX1, TX1, 7)) C hJ hS o6 rfl (cX1_hasClosed_C l G a6 x1 h6) (cwV 1 C.2.2.2.2.1 gX7_closeSession_X1_hasClosed rfl rfl rfl (by decide +kernel) ⟨Nat.le_of_ble_eq_true rfl, Nat.le_of_ble_eq_true rfl⟩) rfl hl.1 rfl (Nat.le_of_ble_eq_true rfl) dX7_closeSession_22 ⟨by show cells + 0 ≤ mc; omega, by show slots + 0 ≤ ms; omega⟩ (fun H locs hJ hS => ?_)
      replace hc1 : cells + 0 + n0 ≤ S6.2.1 := by omega
      replace hc2 : slots + 0 + m0 ≤ S6.2.2.1 := by omega
      generalize cells + 0 = cells at hc1 ⊢
      generalize slots + 0 = slots at hc2 ⊢
      refine lv_if_eq (tgt := 31) C.1 C.2.1 dX7_closeSession_25 (by decide) (fun hq7 => ?_) (fun hq7 => ?_)
      · replace hf := jm_ift hf hq7
        refine jw_aload_n C dX7_closeSession_31 rfl (hl.at 0 rfl) ?_
        refine lv_iconst (v := 3) C.1 C.2.1 dX7_closeSession_32 (by decide) ?_
        refine lv_iconst (v := 0) C.1 C.2.1 dX7_closeSession_33 (by decide) ?_
        refine lv_iconst (v := 0) C.1 C.2.1 dX7_closeSession_34 (by decide) ?_
        refine lv_iload_n C.1 C.2.1 dX7_closeSession_35 rfl (hl.at 1 rfl) ?_
        obtain ⟨a8, o8, hf⟩ := jm_rd_ok hf
        obtain ⟨v8, S8, h8, hf⟩ := jm_bd_ok hf
        have e8 := moX7_propose a8 3 0 0 x1 _ _ _ h8
        have g8 := jm_mo hf (jm_Mo_ret _)
        refine jw_cV (q := (RX7, TX7, 12)) C hJ hS o8 rfl (cX7_propose_C l G a8 3 0 0 x1 h8 (S8.2.1 - S6.2.1) (S8.2.2.1 - S6.2.2.1) (by omega) (by omega)) (cwV 4 C.2.2.2.2.1 gX7_closeSession_X7_propose rfl rfl rfl (by decide +kernel) ⟨Nat.le_of_ble_eq_true rfl, Nat.le_of_ble_eq_true rfl⟩) rfl hl.1 rfl (Nat.le_of_ble_eq_true rfl) dX7_closeSession_36 ⟨by show cells + _ ≤ mc; omega, by show slots + _ ≤ ms; omega⟩ (fun H locs hJ hS => ?_)
        replace hc1 : cells + (S8.2.1 - S6.2.1) + n0 ≤ S8.2.1 := by omega
        replace hc2 : slots + (S8.2.2.1 - S6.2.2.1) + m0 ≤ S8.2.2.1 := by omega
        generalize cells + (S8.2.1 - S6.2.1) = cells at hc1 ⊢
        generalize slots + (S8.2.2.1 - S6.2.2.1) = slots at hc2 ⊢
        obtain ⟨rfl, rfl⟩ := jm_ret_ok hf
        exact jw_ri C hJ hS (by omega) (by omega) dX7_closeSession_39
      · replace hf := jm_iff hf hq7
        refine lv_bipush (v := (-2)) C.1 C.2.1 dX7_closeSession_28 (by decide) ?_
        obtain ⟨rfl, rfl⟩ := jm_ret_ok hf
        exact jw_ri C hJ hS (by omega) (by omega) dX7_closeSession_30
  · replace hf := jm_ift hf hq2
    refine lv_iconst (v := (-1)) C.1 C.2.1 dX7_closeSession_8 (by decide) ?_
    obtain ⟨rfl, rfl⟩ := jm_ret_ok hf
    exact jw_ri C hJ hS (by omega) (by omega) dX7_closeSession_9
set_option maxHeartbeats 4000000 in
set_option maxRecDepth 100000 in
theorem cX7_closeSession_C (l : Launch) (G : jm_G) (h0 : Nat) (x1 : Int32) {S Sf : jm_S} {rv : Int32} (hf : fX7_closeSession h0 x1 S = some (rv, Sf)) (mc ms : Nat) (hr1 : Sf.2.1 ≤ S.2.1 + mc) (hr2 : Sf.2.2.1 ≤ S.2.2.1 + ms) : Met l yX7_closeSession wsX7_closeSession ({ frames := 8, cells := mc, slots := ms, locals := 197 } : Room) (jm_Pc G S [.ref h0, .int x1]) (jm_Q G (some (.int rv)) Sf) mc ms (jm_A G) := by
  refine Met.ofW (cc := cX7_closeSession) (maxL := 2) (ret := (some .int)) (by decide) rfl ?_
  intro p e s m args below meth c s₁ B hml hv
  obtain ⟨rfl, hJ, hX⟩ := hv
  have C : jm_C G cX7_closeSession 2 RX7 wsX7_closeSession ((some .int)) p s m _ meth c := ⟨B.exec, B.bytes, hml, findClass_of_methodNamed B.named, atoms_spec (ws := wsX7_closeSession) B.pre, B.returns, B.notSynchronized, hX⟩
  obtain ⟨ls, he, hl⟩ := jm_entry m [.inr (some h0), .inl x1] (n := 2) (Nat.le_of_ble_eq_true rfl)
  have he : entryFrame m ([.ref h0, .int x1] : List Value).toArray 2 = F0 m 0 ls [] := he
  rw [he]
  exact kX7_closeSession C (n0 := S.2.1) (m0 := S.2.2.1) hr1 hr2 h0 x1 hf hJ va_S.rf (hl.sub [0, 1] rfl) (by omega) (by omega)
/-! CoordinationService$Watches.size -/
def fX6_size (h0 : Nat) : jm_P Int32 := jm_rd (jm_gR (some h0) 7 0) fun v1 => jm_rd (jm_o v1 0) fun a2 => jm_bd (fJx4a65c_size_8abf5 a2) fun v2 => jm_ret v2
theorem inX6_size_X6 : ∀ w ∈ wsX60, w ∈ wsX6_size := fun _ h => List.mem_cons_of_mem _ (List.mem_append_left _ (List.mem_append_right _ h))
theorem moX6_size (h0 : Nat) : jm_Mo (fX6_size h0) := by
  unfold fX6_size
  exact jm_Mo_rd (fun _ => jm_Mo_rd (fun _ => jm_Mo_bd (moJx4a65c_size_8abf5 _) (fun _ => jm_Mo_ret _)))
set_option maxHeartbeats 4000000 in
set_option maxRecDepth 100000 in
theorem kX6_size {rv : Int32} {Sf : jm_S} (C : jm_C G cX6_size 1 RX6 wsX6_size ((some .int)) p s m args meth c) : ∀ (h0 : Nat) {S : jm_S} {H : Heap} {locs : List Loc} {ls : Array Slot}, fX6_size h0 S = some (rv, Sf) → jm_J G S H → va_S (jm_A G) s.heap H locs → jm_L ls 1 [(0, .inr (some h0))] → W p l e ({ frames := 1, cells := 0, slots := 0, locals := 20 } : Room) s m args below meth c H locs 0 0 (MQ below (jm_Q G (some (.int rv)) Sf) args s 0 0 (jm_A G)) (F0 m 0 ls []) := by
  intro h0 S H locs ls hf hJ hS hl
  unfold fX6_size at hf
  refine jw_aload_n C dX6_size_0 rfl (hl.at 0 rfl) ?_
  obtain ⟨v1, h1, hf⟩ := jm_rd_ok hf
  refine jw_gR (Cn := RX6) (T := TX6) (N := 1) C hJ h1 rfl inX6_size_X6 (by decide) (jm_w C 1 rfl) (fun _ h => h) dX6_size_1 ?_
  obtain ⟨a2, o2, hf⟩ := jm_rd_ok hf
  obtain ⟨v2, S2, h2, hf⟩ := jm_bd_ok hf
  refine jw_cV (q := (RJx4a65c, TJx4a65c, 3)) C hJ hS o2 rfl (cJx4a65c_size_8abf5_C l G a2 h2) (cwV 0 C.2.2.2.2.1 gX6_size_Jx4a65c_size_8abf5 rfl rfl rfl (by decide +kernel) ⟨Nat.le_of_ble_eq_true rfl, Nat.le_of_ble_eq_true rfl⟩) rfl hl.1 rfl (Nat.le_of_ble_eq_true rfl) dX6_size_4 ⟨Nat.le_refl _, Nat.le_refl _⟩ (fun H locs hJ hS => ?_)
  obtain ⟨rfl, rfl⟩ := jm_ret_ok hf
  exact jw_ri C hJ hS (Nat.le_refl _) (Nat.le_refl _) dX6_size_7
set_option maxHeartbeats 4000000 in
set_option maxRecDepth 100000 in
theorem cX6_size_C (l : Launch) (G : jm_G) (h0 : Nat) {S Sf : jm_S} {rv : Int32} (hf : fX6_size h0 S = some (rv, Sf)) : Met l yX6_size wsX6_size ({ frames := 1, cells := 0, slots := 0, locals := 20 } : Room) (jm_Pc G S [.ref h0]) (jm_Q G (some (.int rv)) Sf) 0 0 (jm_A G) := by
  refine Met.ofW (cc := cX6_size) (maxL := 1) (ret := (some .int)) (by decide) rfl ?_
  intro p e s m args below meth c s₁ B hml hv
  obtain ⟨rfl, hJ, hX⟩ := hv
  have C : jm_C G cX6_size 1 RX6 wsX6_size ((some .int)) p s m _ meth c := ⟨B.exec, B.bytes, hml, findClass_of_methodNamed B.named, atoms_spec (ws := wsX6_size) B.pre, B.returns, B.notSynchronized, hX⟩
  obtain ⟨ls, he, hl⟩ := jm_entry m [.inr (some h0)] (n := 1) (Nat.le_of_ble_eq_true rfl)
  have he : entryFrame m ([.ref h0] : List Value).toArray 1 = F0 m 0 ls [] := he
  rw [he]
  exact kX6_size C h0 hf hJ va_S.rf (hl.sub [0] rfl)
/-! CoordinationService$Watch.<init> -/
def fX5_init (h0 : Nat) (x1 : Int32) (x2 : Option Nat) (x3 : Int32) : jm_P Unit := jm_rd (jm_nn (some h0)) fun _ => jm_wr (jm_p (some h0) 6 0 (.inl x1)) <| jm_wr (jm_p (some h0) 6 1 (.inr x2)) <| jm_wr (jm_p (some h0) 6 2 (.inl x3)) <| jm_ret ()
theorem inX5_init_X5 : ∀ w ∈ wsX50, w ∈ wsX5_init := fun _ h => List.mem_cons_of_mem _ (List.mem_append_right _ h)
theorem moX5_init (h0 : Nat) (x1 : Int32) (x2 : Option Nat) (x3 : Int32) : jm_Mo (fX5_init h0 x1 x2 x3) := by
  unfold fX5_init
  exact jm_Mo_rd (fun _ => jm_Mo_wr jm_p_st (jm_Mo_wr jm_p_st (jm_Mo_wr jm_p_st (jm_Mo_ret _))))
set_option maxHeartbeats 4000000 in
set_option maxRecDepth 100000 in
theorem kX5_init {rv : Unit} {Sf : jm_S} (C : jm_C G cX5_init 4 RX5 wsX5_init (none) p s m args meth c) (hi : meth.name = "<init>") : ∀ (h0 : Nat) (x1 : Int32) (x2 : Option Nat) (x3 : Int32) {S : jm_S} {H : Heap} {locs : List Loc} {ls : Array Slot}, fX5_init h0 x1 x2 x3 S = some (rv, Sf) → jm_J G S H → va_S (jm_A G) s.heap H locs → jm_L ls 4 [(0, .inr (some h0)), (1, .inl x1), (2, .inr x2), (3, .inl x3)] → W p l e ({ frames := 1, cells := 0, slots := 0, locals := 20 } : Room) s m args below meth c H locs 0 0 (MQ below (jm_Q G (none) Sf) args s 0 0 (jm_A G)) (F0 m 0 ls []) := by
  intro h0 x1 x2 x3 S H locs ls hf hJ hS hl
  unfold fX5_init at hf
  refine jw_aload_n C dX5_init_0 rfl (hl.at 0 rfl) ?_
  obtain ⟨u1, h1, hf⟩ := jm_rd_ok hf
  refine jw_objInit C h1 hl.1 (jm_w C 1 rfl) (jm_w C 2 rfl) (jm_w C 3 rfl) dX5_init_1 (Nat.le_of_ble_eq_true rfl) (Nat.le_of_ble_eq_true rfl) (Nat.le_of_ble_eq_true rfl) ?_
  refine jw_aload_n C dX5_init_4 rfl (hl.at 0 rfl) ?_
  refine lv_iload_n C.1 C.2.1 dX5_init_5 rfl (hl.at 1 rfl) ?_
  obtain ⟨S2, h2, hf⟩ := jm_wr_ok hf
  refine jw_pF (x := .inl x1) (ty := .int) (Cn := RX5) (T := TX5) (N := 3) C hJ hS h2 rfl inX5_init_X5 tyX5 tyX5_ok nmX5 (by decide) (jm_w C 4 rfl) (fun _ h => h) rfl hi rfl (by decide +kernel) rfl rfl dX5_init_6 (fun H locs hJ hS => ?_)
  refine jw_aload_n C dX5_init_9 rfl (hl.at 0 rfl) ?_
  refine jw_aload_n C dX5_init_10 rfl (hl.at 2 rfl) ?_
  obtain ⟨S3, h3, hf⟩ := jm_wr_ok hf
  refine jw_pF (x := .inr x2) (ty := (.object "CoordinationService$Session")) (Cn := RX5) (T := TX5) (N := 3) C hJ hS h3 rfl inX5_init_X5 tyX5 tyX5_ok nmX5 (by decide) (jm_w C 5 rfl) (fun _ h => h) rfl hi rfl (by decide +kernel) (jm_nr _ x2).1 (jm_nr _ x2).2 dX5_init_11 (fun H locs hJ hS => ?_)
  refine jw_aload_n C dX5_init_14 rfl (hl.at 0 rfl) ?_
  refine lv_iload_n C.1 C.2.1 dX5_init_15 rfl (hl.at 3 rfl) ?_
  obtain ⟨S4, h4, hf⟩ := jm_wr_ok hf
  refine jw_pF (x := .inl x3) (ty := .int) (Cn := RX5) (T := TX5) (N := 3) C hJ hS h4 rfl inX5_init_X5 tyX5 tyX5_ok nmX5 (by decide) (jm_w C 6 rfl) (fun _ h => h) rfl hi rfl (by decide +kernel) rfl rfl dX5_init_16 (fun H locs hJ hS => ?_)
  obtain ⟨rfl, rfl⟩ := jm_ret_ok hf
  exact jw_rv C hJ hS (Nat.le_refl _) (Nat.le_refl _) dX5_init_19
set_option maxHeartbeats 4000000 in
set_option maxRecDepth 100000 in
theorem cX5_init_C (l : Launch) (G : jm_G) (h0 : Nat) (x1 : Int32) (x2 : Option Nat) (x3 : Int32) {S Sf : jm_S} {rv : Unit} (hf : fX5_init h0 x1 x2 x3 S = some (rv, Sf)) : Met l yX5_init wsX5_init ({ frames := 1, cells := 0, slots := 0, locals := 20 } : Room) (jm_Pc G S [.ref h0, .int x1, va_rf x2, .int x3]) (jm_Q G (none) Sf) 0 0 (jm_A G) := by
  refine Met.ofW (cc := cX5_init) (maxL := 4) (ret := none) (by decide) rfl ?_
  intro p e s m args below meth c s₁ B hml hv
  obtain ⟨rfl, hJ, hX⟩ := hv
  have C : jm_C G cX5_init 4 RX5 wsX5_init (none) p s m _ meth c := ⟨B.exec, B.bytes, hml, findClass_of_methodNamed B.named, atoms_spec (ws := wsX5_init) B.pre, B.returns, B.notSynchronized, hX⟩
  have hi : meth.name = "<init>" := (name_of_methodNamed B.named B.method).1
  obtain ⟨ls, he, hl⟩ := jm_entry m [.inr (some h0), .inl x1, .inr x2, .inl x3] (n := 4) (Nat.le_of_ble_eq_true rfl)
  have he : entryFrame m ([.ref h0, .int x1, va_rf x2, .int x3] : List Value).toArray 4 = F0 m 0 ls [] := he
  rw [he]
  exact kX5_init C hi h0 x1 x2 x3 hf hJ va_S.rf (hl.sub [0, 1, 2, 3] rfl)
/-! CoordinationService$Watches.add -/
def fX6_add (h0 : Nat) (x1 : Option Nat) : jm_P Unit := jm_rd (jm_gR (some h0) 7 0) fun v1 => jm_rd (jm_o v1 0) fun a2 => jm_bd (fJx4a65c_add_9ea2d a2 x1) fun v2 => jm_ret ()
theorem inX6_add_X6 : ∀ w ∈ wsX60, w ∈ wsX6_add := fun _ h => List.mem_cons_of_mem _ (List.mem_append_left _ (List.mem_append_right _ h))
theorem moX6_add (h0 : Nat) (x1 : Option Nat) : jm_Mo (fX6_add h0 x1) := by
  unfold fX6_add
  exact jm_Mo_rd (fun _ => jm_Mo_rd (fun _ => jm_Mo_bd (moJx4a65c_add_9ea2d _ _) (fun _ => jm_Mo_ret _)))
set_option maxHeartbeats 4000000 in
set_option maxRecDepth 100000 in
theorem kX6_add {rv : Unit} {Sf : jm_S} (C : jm_C G cX6_add 2 RX6 wsX6_add (none) p s m args meth c) {n0 m0 mc ms : Nat} (hr1 : Sf.2.1 ≤ n0 + mc) (hr2 : Sf.2.2.1 ≤ m0 + ms) : ∀ (h0 : Nat) (x1 : Option Nat) {S : jm_S} {H : Heap} {locs : List Loc} {ls : Array Slot} {cells slots : Nat}, fX6_add h0 x1 S = some (rv, Sf) → jm_J G S H → va_S (jm_A G) s.heap H locs → jm_L ls 2 [(0, .inr (some h0)), (1, .inr x1)] → cells + n0 ≤ S.2.1 → slots + m0 ≤ S.2.2.1 → W p l e ({ frames := 7, cells := mc, slots := ms, locals := 171 } : Room) s m args below meth c H locs cells slots (MQ below (jm_Q G (none) Sf) args s mc ms (jm_A G)) (F0 m 0 ls []) := by
  intro h0 x1 S H locs ls cells slots hf hJ hS hl hc1 hc2
  unfold fX6_add at hf
  refine jw_aload_n C dX6_add_0 rfl (hl.at 0 rfl) ?_
  obtain ⟨v1, h1, hf⟩ := jm_rd_ok hf
  refine jw_gR (Cn := RX6) (T := TX6) (N := 1) C hJ h1 rfl inX6_add_X6 (by decide) (jm_w C 1 rfl) (fun _ h => h) dX6_add_1 ?_
  refine jw_aload_n C dX6_add_4 rfl (hl.at 1 rfl) ?_
  obtain ⟨a2, o2, hf⟩ := jm_rd_ok hf
  obtain ⟨v2, S2, h2, hf⟩ := jm_bd_ok hf
  have e2 := moJx4a65c_add_9ea2d a2 x1 _ _ _ h2
  have g2 := jm_mo hf (jm_Mo_ret _)
  refine jw_cV (q := (RJx4a65c, TJx4a65c, 3)) C hJ hS o2 rfl (cJx4a65c_add_9ea2d_C l G a2 x1 h2 (S2.2.1 - S.2.1) (S2.2.2.1 - S.2.2.1) (by omega) (by omega)) (cwV 1 C.2.2.2.2.1 gX6_add_Jx4a65c_add_9ea2d rfl rfl rfl (by decide +kernel) ⟨Nat.le_of_ble_eq_true rfl, Nat.le_of_ble_eq_true rfl⟩) rfl hl.1 rfl (Nat.le_of_ble_eq_true rfl) dX6_add_5 ⟨by show cells + _ ≤ mc; omega, by show slots + _ ≤ ms; omega⟩ (fun H locs hJ hS => ?_)
  replace hc1 : cells + (S2.2.1 - S.2.1) + n0 ≤ S2.2.1 := by omega
  replace hc2 : slots + (S2.2.2.1 - S.2.2.1) + m0 ≤ S2.2.2.1 := by omega
  generalize cells + (S2.2.1 - S.2.1) = cells at hc1 ⊢
  generalize slots + (S2.2.2.1 - S.2.2.1) = slots at hc2 ⊢
  refine lv_pop C.1 C.2.1 dX6_add_8 rfl ?_
  obtain ⟨rfl, rfl⟩ := jm_ret_ok hf
  exact jw_rv C hJ hS (by omega) (by omega) dX6_add_9
set_option maxHeartbeats 4000000 in
set_option maxRecDepth 100000 in
theorem cX6_add_C (l : Launch) (G : jm_G) (h0 : Nat) (x1 : Option Nat) {S Sf : jm_S} {rv : Unit} (hf : fX6_add h0 x1 S = some (rv, Sf)) (mc ms : Nat) (hr1 : Sf.2.1 ≤ S.2.1 + mc) (hr2 : Sf.2.2.1 ≤ S.2.2.1 + ms) : Met l yX6_add wsX6_add ({ frames := 7, cells := mc, slots := ms, locals := 171 } : Room) (jm_Pc G S [.ref h0, va_rf x1]) (jm_Q G (none) Sf) mc ms (jm_A G) := by
  refine Met.ofW (cc := cX6_add) (maxL := 2) (ret := none) (by decide) rfl ?_
  intro p e s m args below meth c s₁ B hml hv
  obtain ⟨rfl, hJ, hX⟩ := hv
  have C : jm_C G cX6_add 2 RX6 wsX6_add (none) p s m _ meth c := ⟨B.exec, B.bytes, hml, findClass_of_methodNamed B.named, atoms_spec (ws := wsX6_add) B.pre, B.returns, B.notSynchronized, hX⟩
  obtain ⟨ls, he, hl⟩ := jm_entry m [.inr (some h0), .inr x1] (n := 2) (Nat.le_of_ble_eq_true rfl)
  have he : entryFrame m ([.ref h0, va_rf x1] : List Value).toArray 2 = F0 m 0 ls [] := he
  rw [he]
  exact kX6_add C (n0 := S.2.1) (m0 := S.2.2.1) hr1 hr2 h0 x1 hf hJ va_S.rf (hl.sub [0, 1] rfl) (by omega) (by omega)
/-! CoordinationService.watch -/
def fX7_watch (h0 : Nat) (x1 : Int32) (x2 : Int32) : jm_P Int32 := jm_rd (jm_o (some h0) 8) fun a1 => jm_bd (fX7_findServer a1 x1) fun v1 => jm_rd (jm_o (some h0) 8) fun a2 => jm_bd (fX7_findSession a2 x2) fun v2 => (if v1 = none then jm_ret (-1) else (if v2 = none then jm_ret (-1) else jm_rd (jm_gI v1 2 3) fun v5 => (if v5 = 0 then jm_ret (-2) else jm_rd (jm_gI (some h0) 8 10) fun v7 => (if v7 = 0 then jm_ret (-2) else jm_rd (jm_gR (some h0) 8 2) fun v9 => jm_rd (jm_o v9 7) fun a10 => jm_bd (fX6_size a10) fun v10 => (if v10 < 10 then jm_rd (jm_gR (some h0) 8 2) fun v12 => jm_bd (jm_new 6 [.inl 0, .inr none, .inl 0]) fun q13 => jm_rd (jm_gI (some h0) 8 10) fun v14 => jm_bd (fX5_init q13 x1 v2 v14) fun _ => jm_rd (jm_o v12 7) fun a16 => jm_bd (fX6_add a16 (some q13)) fun _ => jm_rd (jm_gR (some h0) 8 2) fun v17 => jm_rd (jm_o v17 7) fun a18 => jm_bd (fX6_size a18) fun v18 => jm_ret v18 else jm_ret (-7))))))
theorem inX7_watch_X1 : ∀ w ∈ wsX10, w ∈ wsX7_watch := fun _ h => List.mem_cons_of_mem _ (List.mem_append_left _ (List.mem_append_left _ (List.mem_append_left _ (List.mem_append_left _ (List.mem_append_right _ h)))))
theorem inX7_watch_X7 : ∀ w ∈ wsX70, w ∈ wsX7_watch := fun _ h => List.mem_cons_of_mem _ (List.mem_append_left _ (List.mem_append_left _ (List.mem_append_left _ (List.mem_append_right _ h))))
theorem inX7_watch_X5 : ∀ w ∈ wsX50, w ∈ wsX7_watch := fun _ h => List.mem_cons_of_mem _ (List.mem_append_left _ (List.mem_append_left _ (List.mem_append_right _ h)))
theorem moX7_watch (h0 : Nat) (x1 : Int32) (x2 : Int32) : jm_Mo (fX7_watch h0 x1 x2) := by
  unfold fX7_watch
  exact jm_Mo_rd (fun _ => jm_Mo_bd (moX7_findServer _ _) (fun _ => jm_Mo_rd (fun _ => jm_Mo_bd (moX7_findSession _ _) (fun _ => jm_Mo_if (jm_Mo_ret _) (jm_Mo_if (jm_Mo_ret _) (jm_Mo_rd (fun _ => jm_Mo_if (jm_Mo_ret _) (jm_Mo_rd (fun _ => jm_Mo_if (jm_Mo_ret _) (jm_Mo_rd (fun _ => jm_Mo_rd (fun _ => jm_Mo_bd (moX6_size _) (fun _ => jm_Mo_if (jm_Mo_rd (fun _ => jm_Mo_bd jm_Mo_new (fun _ => jm_Mo_rd (fun _ => jm_Mo_bd (moX5_init _ _ _ _) (fun _ => jm_Mo_rd (fun _ => jm_Mo_bd (moX6_add _ _) (fun _ => jm_Mo_rd (fun _ => jm_Mo_rd (fun _ => jm_Mo_bd (moX6_size _) (fun _ => jm_Mo_ret _)))))))))) (jm_Mo_ret _))))))))))))))
set_option maxHeartbeats 4000000 in
set_option maxRecDepth 100000 in
theorem kX7_watch {rv : Int32} {Sf : jm_S} (C : jm_C G cX7_watch 5 RX7 wsX7_watch ((some .int)) p s m args meth c) {n0 m0 mc ms : Nat} (hr1 : Sf.2.1 ≤ n0 + mc) (hr2 : Sf.2.2.1 ≤ m0 + ms) : ∀ (h0 : Nat) (x1 : Int32) (x2 : Int32) {S : jm_S} {H : Heap} {locs : List Loc} {ls : Array Slot} {cells slots : Nat}, fX7_watch h0 x1 x2 S = some (rv, Sf) → jm_J G S H → va_S (jm_A G) s.heap H locs → jm_L ls 5 [(0, .inr (some h0)), (1, .inl x1), (2, .inl x2)] → cells + n0 ≤ S.2.1 → slots + m0 ≤ S.2.2.1 → W p l e ({ frames := 8, cells := mc, slots := ms, locals := 192 } : Room) s m args below meth c H locs cells slots (MQ below (jm_Q G (some (.int rv)) Sf) args s mc ms (jm_A G)) (F0 m 0 ls []) := by
  intro h0 x1 x2 S H locs ls cells slots hf hJ hS hl hc1 hc2
  unfold fX7_watch at hf
  refine jw_aload_n C dX7_watch_0 rfl (hl.at 0 rfl) ?_
  refine lv_iload_n C.1 C.2.1 dX7_watch_1 rfl (hl.at 1 rfl) ?_
  obtain ⟨a1, o1, hf⟩ := jm_rd_ok hf
  obtain ⟨v1, S1, h1, hf⟩ := jm_bd_ok hf
  have e1 := moX7_findServer a1 x1 _ _ _ h1
  have g1 := jm_mo hf (jm_Mo_rd (fun _ => jm_Mo_bd (moX7_findSession _ _) (fun _ => jm_Mo_if (jm_Mo_ret _) (jm_Mo_if (jm_Mo_ret _) (jm_Mo_rd (fun _ => jm_Mo_if (jm_Mo_ret _) (jm_Mo_rd (fun _ => jm_Mo_if (jm_Mo_ret _) (jm_Mo_rd (fun _ => jm_Mo_rd (fun _ => jm_Mo_bd (moX6_size _) (fun _ => jm_Mo_if (jm_Mo_rd (fun _ => jm_Mo_bd jm_Mo_new (fun _ => jm_Mo_rd (fun _ => jm_Mo_bd (moX5_init _ _ _ _) (fun _ => jm_Mo_rd (fun _ => jm_Mo_bd (moX6_add _ _) (fun _ => jm_Mo_rd (fun _ => jm_Mo_rd (fun _ => jm_Mo_bd (moX6_size _) (fun _ => jm_Mo_ret _)))))))))) (jm_Mo_ret _)))))))))))))
  refine jw_cV (q := (RX7, TX7, 12)) C hJ hS o1 rfl (cX7_findServer_C l G a1 x1 h1) (cwV 1 C.2.2.2.2.1 gX7_watch_X7_findServer rfl rfl rfl (by decide +kernel) ⟨Nat.le_of_ble_eq_true rfl, Nat.le_of_ble_eq_true rfl⟩) rfl hl.1 rfl (Nat.le_of_ble_eq_true rfl) dX7_watch_2 ⟨by show cells + 0 ≤ mc; omega, by show slots + 0 ≤ ms; omega⟩ (fun H locs hJ hS => ?_)
  replace hc1 : cells + 0 + n0 ≤ S1.2.1 := by omega
  replace hc2 : slots + 0 + m0 ≤ S1.2.2.1 := by omega
  generalize cells + 0 = cells at hc1 ⊢
  generalize slots + 0 = slots at hc2 ⊢
  refine jw_astore_n C dX7_watch_5 rfl hl (by decide) rfl (fun ls hl => ?_)
  refine jw_aload_n C dX7_watch_6 rfl (hl.at 1 rfl) ?_
  refine lv_iload_n C.1 C.2.1 dX7_watch_7 rfl (hl.at 3 rfl) ?_
  obtain ⟨a2, o2, hf⟩ := jm_rd_ok hf
  obtain ⟨v2, S2, h2, hf⟩ := jm_bd_ok hf
  have e2 := moX7_findSession a2 x2 _ _ _ h2
  have g2 := jm_mo hf (jm_Mo_if (jm_Mo_ret _) (jm_Mo_if (jm_Mo_ret _) (jm_Mo_rd (fun _ => jm_Mo_if (jm_Mo_ret _) (jm_Mo_rd (fun _ => jm_Mo_if (jm_Mo_ret _) (jm_Mo_rd (fun _ => jm_Mo_rd (fun _ => jm_Mo_bd (moX6_size _) (fun _ => jm_Mo_if (jm_Mo_rd (fun _ => jm_Mo_bd jm_Mo_new (fun _ => jm_Mo_rd (fun _ => jm_Mo_bd (moX5_init _ _ _ _) (fun _ => jm_Mo_rd (fun _ => jm_Mo_bd (moX6_add _ _) (fun _ => jm_Mo_rd (fun _ => jm_Mo_rd (fun _ => jm_Mo_bd (moX6_size _) (fun _ => jm_Mo_ret _)))))))))) (jm_Mo_ret _)))))))))))
  refine jw_cV (q := (RX7, TX7, 12)) C hJ hS o2 rfl (cX7_findSession_C l G a2 x2 h2) (cwV 1 C.2.2.2.2.1 gX7_watch_X7_findSession rfl rfl rfl (by decide +kernel) ⟨Nat.le_of_ble_eq_true rfl, Nat.le_of_ble_eq_true rfl⟩) rfl hl.1 rfl (Nat.le_of_ble_eq_true rfl) dX7_watch_8 ⟨by show cells + 0 ≤ mc; omega, by show slots + 0 ≤ ms; omega⟩ (fun H locs hJ hS => ?_)
  replace hc1 : cells + 0 + n0 ≤ S2.2.1 := by omega
  replace hc2 : slots + 0 + m0 ≤ S2.2.2.1 := by omega
  generalize cells + 0 = cells at hc1 ⊢
  generalize slots + 0 = slots at hc2 ⊢
  refine jw_astore C dX7_watch_11 hl (by decide) rfl (fun ls hl => ?_)
  refine jw_aload_n C dX7_watch_13 rfl (hl.at 1 rfl) ?_
  refine jw_ifnull (tgt := 22) C dX7_watch_14 (by decide) (fun hq3 => ?_) (fun hq3 => ?_)
  · replace hf := jm_ift hf hq3
    refine lv_iconst (v := (-1)) C.1 C.2.1 dX7_watch_22 (by decide) ?_
    obtain ⟨rfl, rfl⟩ := jm_ret_ok hf
    exact jw_ri C hJ hS (by omega) (by omega) dX7_watch_23
  · replace hf := jm_iff hf hq3
    refine jw_aload C dX7_watch_17 (hl.at 0 rfl) ?_
    refine jw_ifnonnull (tgt := 24) C dX7_watch_19 (by decide) (fun hq4 => ?_) (fun hq4 => ?_)
    · replace hf := jm_iff hf hq4
      refine jw_aload_n C dX7_watch_24 rfl (hl.at 1 rfl) ?_
      obtain ⟨v5, h5, hf⟩ := jm_rd_ok hf
      refine jw_gI (Cn := RX1) (T := TX1) (N := 7) C hJ h5 rfl inX7_watch_X1 (by decide) (jm_w C 1 rfl) (fun _ h => h) dX7_watch_25 ?_
      refine lv_if_eq (tgt := 38) C.1 C.2.1 dX7_watch_28 (by decide) (fun hq6 => ?_) (fun hq6 => ?_)
      · replace hf := jm_ift hf hq6
        refine lv_bipush (v := (-2)) C.1 C.2.1 dX7_watch_38 (by decide) ?_
        obtain ⟨rfl, rfl⟩ := jm_ret_ok hf
        exact jw_ri C hJ hS (by omega) (by omega) dX7_watch_40
      · replace hf := jm_iff hf hq6
        refine jw_aload_n C dX7_watch_31 rfl (hl.at 2 rfl) ?_
        obtain ⟨v7, h7, hf⟩ := jm_rd_ok hf
        refine jw_gI (Cn := RX7) (T := TX7) (N := 12) C hJ h7 rfl inX7_watch_X7 (by decide) (jm_w C 2 rfl) (fun _ h => h) dX7_watch_32 ?_
        refine lv_if_ne (tgt := 41) C.1 C.2.1 dX7_watch_35 (by decide) (fun hq8 => ?_) (fun hq8 => ?_)
        · replace hf := jm_iff hf hq8
          refine jw_aload_n C dX7_watch_41 rfl (hl.at 2 rfl) ?_
          obtain ⟨v9, h9, hf⟩ := jm_rd_ok hf
          refine jw_gR (Cn := RX7) (T := TX7) (N := 12) C hJ h9 rfl inX7_watch_X7 (by decide) (jm_w C 3 rfl) (fun _ h => h) dX7_watch_42 ?_
          obtain ⟨a10, o10, hf⟩ := jm_rd_ok hf
          obtain ⟨v10, S10, h10, hf⟩ := jm_bd_ok hf
          have e10 := moX6_size a10 _ _ _ h10
          have g10 := jm_mo hf (jm_Mo_if (jm_Mo_rd (fun _ => jm_Mo_bd jm_Mo_new (fun _ => jm_Mo_rd (fun _ => jm_Mo_bd (moX5_init _ _ _ _) (fun _ => jm_Mo_rd (fun _ => jm_Mo_bd (moX6_add _ _) (fun _ => jm_Mo_rd (fun _ => jm_Mo_rd (fun _ => jm_Mo_bd (moX6_size _) (fun _ => jm_Mo_ret _)))))))))) (jm_Mo_ret _))
          refine jw_cV (q := (RX6, TX6, 1)) C hJ hS o10 rfl (cX6_size_C l G a10 h10) (cwV 0 C.2.2.2.2.1 gX7_watch_X6_size rfl rfl rfl (by decide +kernel) ⟨Nat.le_of_ble_eq_true rfl, Nat.le_of_ble_eq_true rfl⟩) rfl hl.1 rfl (Nat.le_of_ble_eq_true rfl) dX7_watch_45 ⟨by show cells + 0 ≤ mc; omega, by show slots + 0 ≤ ms; omega⟩ (fun H locs hJ hS => ?_)
          replace hc1 : cells + 0 + n0 ≤ S10.2.1 := by omega
          replace hc2 : slots + 0 + m0 ≤ S10.2.2.1 := by omega
          generalize cells + 0 = cells at hc1 ⊢
          generalize slots + 0 = slots at hc2 ⊢
          refine lv_bipush (v := 10) C.1 C.2.1 dX7_watch_48 (by decide) ?_
          refine lv_icmp_lt (tgt := 56) C.1 C.2.1 dX7_watch_50 (by decide) (fun hq11 => ?_) (fun hq11 => ?_)
          · replace hf := jm_ift hf hq11
            refine jw_aload_n C dX7_watch_56 rfl (hl.at 2 rfl) ?_
            obtain ⟨v12, h12, hf⟩ := jm_rd_ok hf
            refine jw_gR (Cn := RX7) (T := TX7) (N := 12) C hJ h12 rfl inX7_watch_X7 (by decide) (jm_w C 3 rfl) (fun _ h => h) dX7_watch_57 ?_
            obtain ⟨q13, S13, h13, hf⟩ := jm_bd_ok hf
            have e13 := jm_new_st h13
            have g13 := jm_mo hf (jm_Mo_rd (fun _ => jm_Mo_bd (moX5_init _ _ _ _) (fun _ => jm_Mo_rd (fun _ => jm_Mo_bd (moX6_add _ _) (fun _ => jm_Mo_rd (fun _ => jm_Mo_rd (fun _ => jm_Mo_bd (moX6_size _) (fun _ => jm_Mo_ret _))))))))
            simp only [List.length_cons, List.length_nil] at e13
            refine jw_new (Cn := RX5) (T := TX5) (N := 3) C hJ hS h13 rfl inX7_watch_X5 tyX5 tyX5_ok (by decide +kernel) rfl (jm_w C 4 rfl) (jm_w C 5 rfl) (jm_w C 6 rfl) (by show cells + 1 ≤ mc; omega) (by show slots + 3 ≤ ms; omega) dX7_watch_60 (fun H hJ hS => ?_)
            replace hc1 : cells + 1 + n0 ≤ S13.2.1 := by omega
            replace hc2 : slots + 3 + m0 ≤ S13.2.2.1 := by omega
            generalize cells + 1 = cells at hc1 ⊢
            generalize slots + 3 = slots at hc2 ⊢
            refine lv_dup C.1 C.2.1 dX7_watch_63 (jm_catr _) ?_
            refine lv_iload_n C.1 C.2.1 dX7_watch_64 rfl (hl.at 3 rfl) ?_
            refine jw_aload C dX7_watch_65 (hl.at 0 rfl) ?_
            refine jw_aload_n C dX7_watch_67 rfl (hl.at 2 rfl) ?_
            obtain ⟨v14, h14, hf⟩ := jm_rd_ok hf
            refine jw_gI (Cn := RX7) (T := TX7) (N := 12) C hJ h14 rfl inX7_watch_X7 (by decide) (jm_w C 2 rfl) (fun _ h => h) dX7_watch_68 ?_
            obtain ⟨v15, S15, h15, hf⟩ := jm_bd_ok hf
            have e15 := moX5_init q13 x1 v2 v14 _ _ _ h15
            have g15 := jm_mo hf (jm_Mo_rd (fun _ => jm_Mo_bd (moX6_add _ _) (fun _ => jm_Mo_rd (fun _ => jm_Mo_rd (fun _ => jm_Mo_bd (moX6_size _) (fun _ => jm_Mo_ret _))))))
            refine jw_cI C hJ hS (cX5_init_C l G q13 x1 v2 v14 h15) (cwI 3 C.2.2.2.2.1 gX7_watch_X5_init rfl rfl rfl (jm_w C 6 rfl) (jm_w C 32 rfl) (jm_w C 33 rfl) rfl (by decide +kernel) ⟨Nat.le_of_ble_eq_true rfl, Nat.le_of_ble_eq_true rfl⟩) rfl hl.1 rfl (Nat.le_of_ble_eq_true rfl) dX7_watch_71 ⟨by show cells + 0 ≤ mc; omega, by show slots + 0 ≤ ms; omega⟩ (fun H locs hJ hS => ?_)
            replace hc1 : cells + 0 + n0 ≤ S15.2.1 := by omega
            replace hc2 : slots + 0 + m0 ≤ S15.2.2.1 := by omega
            generalize cells + 0 = cells at hc1 ⊢
            generalize slots + 0 = slots at hc2 ⊢
            obtain ⟨a16, o16, hf⟩ := jm_rd_ok hf
            obtain ⟨v16, S16, h16, hf⟩ := jm_bd_ok hf
            have e16 := moX6_add a16 (some q13) _ _ _ h16
            have g16 := jm_mo hf (jm_Mo_rd (fun _ => jm_Mo_rd (fun _ => jm_Mo_bd (moX6_size _) (fun _ => jm_Mo_ret _))))
            refine jw_cV (q := (RX6, TX6, 1)) C hJ hS o16 rfl (cX6_add_C l G a16 (some q13) h16 (S16.2.1 - S15.2.1) (S16.2.2.1 - S15.2.2.1) (by omega) (by omega)) (cwV 1 C.2.2.2.2.1 gX7_watch_X6_add rfl rfl rfl (by decide +kernel) ⟨Nat.le_of_ble_eq_true rfl, Nat.le_of_ble_eq_true rfl⟩) rfl hl.1 rfl (Nat.le_of_ble_eq_true rfl) dX7_watch_74 ⟨by show cells + _ ≤ mc; omega, by show slots + _ ≤ ms; omega⟩ (fun H locs hJ hS => ?_)
            replace hc1 : cells + (S16.2.1 - S15.2.1) + n0 ≤ S16.2.1 := by omega
            replace hc2 : slots + (S16.2.2.1 - S15.2.2.1) + m0 ≤ S16.2.2.1 := by omega
            generalize cells + (S16.2.1 - S15.2.1) = cells at hc1 ⊢
            generalize slots + (S16.2.2.1 - S15.2.2.1) = slots at hc2 ⊢
            refine jw_aload_n C dX7_watch_77 rfl (hl.at 2 rfl) ?_
            obtain ⟨v17, h17, hf⟩ := jm_rd_ok hf
            refine jw_gR (Cn := RX7) (T := TX7) (N := 12) C hJ h17 rfl inX7_watch_X7 (by decide) (jm_w C 3 rfl) (fun _ h => h) dX7_watch_78 ?_
            obtain ⟨a18, o18, hf⟩ := jm_rd_ok hf
            obtain ⟨v18, S18, h18, hf⟩ := jm_bd_ok hf
            have e18 := moX6_size a18 _ _ _ h18
            have g18 := jm_mo hf (jm_Mo_ret _)
            refine jw_cV (q := (RX6, TX6, 1)) C hJ hS o18 rfl (cX6_size_C l G a18 h18) (cwV 0 C.2.2.2.2.1 gX7_watch_X6_size rfl rfl rfl (by decide +kernel) ⟨Nat.le_of_ble_eq_true rfl, Nat.le_of_ble_eq_true rfl⟩) rfl hl.1 rfl (Nat.le_of_ble_eq_true rfl) dX7_watch_81 ⟨by show cells + 0 ≤ mc; omega, by show slots + 0 ≤ ms; omega⟩ (fun H locs hJ hS => ?_)
            replace hc1 : cells + 0 + n0 ≤ S18.2.1 := by omega
            replace hc2 : slots + 0 + m0 ≤ S18.2.2.1 := by omega
            generalize cells + 0 = cells at hc1 ⊢
            generalize slots + 0 = slots at hc2 ⊢
            obtain ⟨rfl, rfl⟩ := jm_ret_ok hf
            exact jw_ri C hJ hS (by omega) (by omega) dX7_watch_84
          · replace hf := jm_iff hf hq11
            refine lv_bipush (v := (-7)) C.1 C.2.1 dX7_watch_53 (by decide) ?_
            obtain ⟨rfl, rfl⟩ := jm_ret_ok hf
            exact jw_ri C hJ hS (by omega) (by omega) dX7_watch_55
        · replace hf := jm_ift hf hq8
          refine lv_bipush (v := (-2)) C.1 C.2.1 dX7_watch_38 (by decide) ?_
          obtain ⟨rfl, rfl⟩ := jm_ret_ok hf
          exact jw_ri C hJ hS (by omega) (by omega) dX7_watch_40
    · replace hf := jm_ift hf hq4
      refine lv_iconst (v := (-1)) C.1 C.2.1 dX7_watch_22 (by decide) ?_
      obtain ⟨rfl, rfl⟩ := jm_ret_ok hf
      exact jw_ri C hJ hS (by omega) (by omega) dX7_watch_23
set_option maxHeartbeats 4000000 in
set_option maxRecDepth 100000 in
theorem cX7_watch_C (l : Launch) (G : jm_G) (h0 : Nat) (x1 : Int32) (x2 : Int32) {S Sf : jm_S} {rv : Int32} (hf : fX7_watch h0 x1 x2 S = some (rv, Sf)) (mc ms : Nat) (hr1 : Sf.2.1 ≤ S.2.1 + mc) (hr2 : Sf.2.2.1 ≤ S.2.2.1 + ms) : Met l yX7_watch wsX7_watch ({ frames := 8, cells := mc, slots := ms, locals := 192 } : Room) (jm_Pc G S [.ref h0, .int x1, .int x2]) (jm_Q G (some (.int rv)) Sf) mc ms (jm_A G) := by
  refine Met.ofW (cc := cX7_watch) (maxL := 5) (ret := (some .int)) (by decide) rfl ?_
  intro p e s m args below meth c s₁ B hml hv
  obtain ⟨rfl, hJ, hX⟩ := hv
  have C : jm_C G cX7_watch 5 RX7 wsX7_watch ((some .int)) p s m _ meth c := ⟨B.exec, B.bytes, hml, findClass_of_methodNamed B.named, atoms_spec (ws := wsX7_watch) B.pre, B.returns, B.notSynchronized, hX⟩
  obtain ⟨ls, he, hl⟩ := jm_entry m [.inr (some h0), .inl x1, .inl x2] (n := 5) (Nat.le_of_ble_eq_true rfl)
  have he : entryFrame m ([.ref h0, .int x1, .int x2] : List Value).toArray 5 = F0 m 0 ls [] := he
  rw [he]
  exact kX7_watch C (n0 := S.2.1) (m0 := S.2.2.1) hr1 hr2 h0 x1 x2 hf hJ va_S.rf (hl.sub [0, 1, 2] rfl) (by omega) (by omega)
/-! CoordinationService.eventCount -/
def fX7_eventCount (h0 : Nat) (x1 : Int32) : jm_P Int32 := jm_rd (jm_o (some h0) 8) fun a1 => jm_bd (fX7_findSession a1 x1) fun v1 => (if v1 = none then jm_ret (-1) else jm_rd (jm_gI v1 3 1) fun v3 => jm_ret v3)
theorem inX7_eventCount_X2 : ∀ w ∈ wsX20, w ∈ wsX7_eventCount := fun _ h => List.mem_cons_of_mem _ (List.mem_append_left _ (List.mem_append_right _ h))
theorem moX7_eventCount (h0 : Nat) (x1 : Int32) : jm_Mo (fX7_eventCount h0 x1) := by
  unfold fX7_eventCount
  exact jm_Mo_rd (fun _ => jm_Mo_bd (moX7_findSession _ _) (fun _ => jm_Mo_if (jm_Mo_ret _) (jm_Mo_rd (fun _ => jm_Mo_ret _))))
set_option maxHeartbeats 4000000 in
set_option maxRecDepth 100000 in
theorem kX7_eventCount {rv : Int32} {Sf : jm_S} (C : jm_C G cX7_eventCount 3 RX7 wsX7_eventCount ((some .int)) p s m args meth c) : ∀ (h0 : Nat) (x1 : Int32) {S : jm_S} {H : Heap} {locs : List Loc} {ls : Array Slot}, fX7_eventCount h0 x1 S = some (rv, Sf) → jm_J G S H → va_S (jm_A G) s.heap H locs → jm_L ls 3 [(0, .inr (some h0)), (1, .inl x1)] → W p l e ({ frames := 1, cells := 0, slots := 0, locals := 21 } : Room) s m args below meth c H locs 0 0 (MQ below (jm_Q G (some (.int rv)) Sf) args s 0 0 (jm_A G)) (F0 m 0 ls []) := by
  intro h0 x1 S H locs ls hf hJ hS hl
  unfold fX7_eventCount at hf
  refine jw_aload_n C dX7_eventCount_0 rfl (hl.at 0 rfl) ?_
  refine lv_iload_n C.1 C.2.1 dX7_eventCount_1 rfl (hl.at 1 rfl) ?_
  obtain ⟨a1, o1, hf⟩ := jm_rd_ok hf
  obtain ⟨v1, S1, h1, hf⟩ := jm_bd_ok hf
  refine jw_cV (q := (RX7, TX7, 12)) C hJ hS o1 rfl (cX7_findSession_C l G a1 x1 h1) (cwV 1 C.2.2.2.2.1 gX7_eventCount_X7_findSession rfl rfl rfl (by decide +kernel) ⟨Nat.le_of_ble_eq_true rfl, Nat.le_of_ble_eq_true rfl⟩) rfl hl.1 rfl (Nat.le_of_ble_eq_true rfl) dX7_eventCount_2 ⟨Nat.le_refl _, Nat.le_refl _⟩ (fun H locs hJ hS => ?_)
  refine jw_astore_n C dX7_eventCount_5 rfl hl (by decide) rfl (fun ls hl => ?_)
  refine jw_aload_n C dX7_eventCount_6 rfl (hl.at 0 rfl) ?_
  refine jw_ifnonnull (tgt := 14) C dX7_eventCount_7 (by decide) (fun hq2 => ?_) (fun hq2 => ?_)
  · replace hf := jm_iff hf hq2
    refine jw_aload_n C dX7_eventCount_14 rfl (hl.at 0 rfl) ?_
    obtain ⟨v3, h3, hf⟩ := jm_rd_ok hf
    refine jw_gI (Cn := RX2) (T := TX2) (N := 3) C hJ h3 rfl inX7_eventCount_X2 (by decide) (jm_w C 1 rfl) (fun _ h => h) dX7_eventCount_15 ?_
    obtain ⟨rfl, rfl⟩ := jm_ret_ok hf
    exact jw_ri C hJ hS (Nat.le_refl _) (Nat.le_refl _) dX7_eventCount_18
  · replace hf := jm_ift hf hq2
    refine lv_iconst (v := (-1)) C.1 C.2.1 dX7_eventCount_10 (by decide) ?_
    refine lv_goto (tgt := 18) C.1 C.2.1 dX7_eventCount_11 (by decide) ?_
    obtain ⟨rfl, rfl⟩ := jm_ret_ok hf
    exact jw_ri C hJ hS (Nat.le_refl _) (Nat.le_refl _) dX7_eventCount_18
set_option maxHeartbeats 4000000 in
set_option maxRecDepth 100000 in
theorem cX7_eventCount_C (l : Launch) (G : jm_G) (h0 : Nat) (x1 : Int32) {S Sf : jm_S} {rv : Int32} (hf : fX7_eventCount h0 x1 S = some (rv, Sf)) : Met l yX7_eventCount wsX7_eventCount ({ frames := 1, cells := 0, slots := 0, locals := 21 } : Room) (jm_Pc G S [.ref h0, .int x1]) (jm_Q G (some (.int rv)) Sf) 0 0 (jm_A G) := by
  refine Met.ofW (cc := cX7_eventCount) (maxL := 3) (ret := (some .int)) (by decide) rfl ?_
  intro p e s m args below meth c s₁ B hml hv
  obtain ⟨rfl, hJ, hX⟩ := hv
  have C : jm_C G cX7_eventCount 3 RX7 wsX7_eventCount ((some .int)) p s m _ meth c := ⟨B.exec, B.bytes, hml, findClass_of_methodNamed B.named, atoms_spec (ws := wsX7_eventCount) B.pre, B.returns, B.notSynchronized, hX⟩
  obtain ⟨ls, he, hl⟩ := jm_entry m [.inr (some h0), .inl x1] (n := 3) (Nat.le_of_ble_eq_true rfl)
  have he : entryFrame m ([.ref h0, .int x1] : List Value).toArray 3 = F0 m 0 ls [] := he
  rw [he]
  exact kX7_eventCount C h0 x1 hf hJ va_S.rf (hl.sub [0, 1] rfl)
/-! CoordinationService$Session.readEvent -/
def fX2_readEvent (h0 : Nat) (x1 : Int32) : jm_P Int32 := jm_rd (jm_gI (some h0) 3 1) fun v1 => (if v1 ≤ x1 then jm_ret (-3) else jm_rd (jm_gI (some h0) 3 1) fun v3 => (if (v3 - 8) ≤ x1 then jm_rd (jm_gR (some h0) 3 2) fun v5 => jm_rd (jm_gi v5 0 (x1 &&& 7)) fun v6 => jm_ret v6 else jm_ret (-3)))
theorem inX2_readEvent_X2 : ∀ w ∈ wsX20, w ∈ wsX2_readEvent := fun _ h => List.mem_cons_of_mem _ (List.mem_append_right _ h)
theorem moX2_readEvent (h0 : Nat) (x1 : Int32) : jm_Mo (fX2_readEvent h0 x1) := by
  unfold fX2_readEvent
  exact jm_Mo_rd (fun _ => jm_Mo_if (jm_Mo_ret _) (jm_Mo_rd (fun _ => jm_Mo_if (jm_Mo_rd (fun _ => jm_Mo_rd (fun _ => jm_Mo_ret _))) (jm_Mo_ret _))))
set_option maxHeartbeats 4000000 in
set_option maxRecDepth 100000 in
theorem kX2_readEvent {rv : Int32} {Sf : jm_S} (C : jm_C G cX2_readEvent 2 RX2 wsX2_readEvent ((some .int)) p s m args meth c) : ∀ (h0 : Nat) (x1 : Int32) {S : jm_S} {H : Heap} {locs : List Loc} {ls : Array Slot}, fX2_readEvent h0 x1 S = some (rv, Sf) → jm_J G S H → va_S (jm_A G) s.heap H locs → jm_L ls 2 [(0, .inr (some h0)), (1, .inl x1)] → W p l e ({ frames := 0, cells := 0, slots := 0, locals := 0 } : Room) s m args below meth c H locs 0 0 (MQ below (jm_Q G (some (.int rv)) Sf) args s 0 0 (jm_A G)) (F0 m 0 ls []) := by
  intro h0 x1 S H locs ls hf hJ hS hl
  unfold fX2_readEvent at hf
  refine lv_iload_n C.1 C.2.1 dX2_readEvent_0 rfl (hl.at 1 rfl) ?_
  refine jw_aload_n C dX2_readEvent_1 rfl (hl.at 0 rfl) ?_
  obtain ⟨v1, h1, hf⟩ := jm_rd_ok hf
  refine jw_gI (Cn := RX2) (T := TX2) (N := 3) C hJ h1 rfl inX2_readEvent_X2 (by decide) (jm_w C 1 rfl) (fun _ h => h) dX2_readEvent_2 ?_
  refine lv_icmp_ge (tgt := 19) C.1 C.2.1 dX2_readEvent_5 (by decide) (fun hq2 => ?_) (fun hq2 => ?_)
  · replace hf := jm_ift hf hq2
    refine lv_bipush (v := (-3)) C.1 C.2.1 dX2_readEvent_19 (by decide) ?_
    obtain ⟨rfl, rfl⟩ := jm_ret_ok hf
    exact jw_ri C hJ hS (Nat.le_refl _) (Nat.le_refl _) dX2_readEvent_21
  · replace hf := jm_iff hf hq2
    refine lv_iload_n C.1 C.2.1 dX2_readEvent_8 rfl (hl.at 1 rfl) ?_
    refine jw_aload_n C dX2_readEvent_9 rfl (hl.at 0 rfl) ?_
    obtain ⟨v3, h3, hf⟩ := jm_rd_ok hf
    refine jw_gI (Cn := RX2) (T := TX2) (N := 3) C hJ h3 rfl inX2_readEvent_X2 (by decide) (jm_w C 1 rfl) (fun _ h => h) dX2_readEvent_10 ?_
    refine lv_bipush (v := 8) C.1 C.2.1 dX2_readEvent_13 (by decide) ?_
    refine lv_isub C.1 C.2.1 dX2_readEvent_15 ?_
    refine lv_icmp_ge (tgt := 22) C.1 C.2.1 dX2_readEvent_16 (by decide) (fun hq4 => ?_) (fun hq4 => ?_)
    · replace hf := jm_ift hf hq4
      refine jw_aload_n C dX2_readEvent_22 rfl (hl.at 0 rfl) ?_
      obtain ⟨v5, h5, hf⟩ := jm_rd_ok hf
      refine jw_gR (Cn := RX2) (T := TX2) (N := 3) C hJ h5 rfl inX2_readEvent_X2 (by decide) (jm_w C 2 rfl) (fun _ h => h) dX2_readEvent_23 ?_
      refine lv_iload_n C.1 C.2.1 dX2_readEvent_26 rfl (hl.at 1 rfl) ?_
      refine lv_bipush (v := 7) C.1 C.2.1 dX2_readEvent_27 (by decide) ?_
      refine lv_iand C.1 C.2.1 dX2_readEvent_29 ?_
      obtain ⟨v6, h6, hf⟩ := jm_rd_ok hf
      refine jw_iaload C hJ h6 dX2_readEvent_30 ?_
      obtain ⟨rfl, rfl⟩ := jm_ret_ok hf
      exact jw_ri C hJ hS (Nat.le_refl _) (Nat.le_refl _) dX2_readEvent_31
    · replace hf := jm_iff hf hq4
      refine lv_bipush (v := (-3)) C.1 C.2.1 dX2_readEvent_19 (by decide) ?_
      obtain ⟨rfl, rfl⟩ := jm_ret_ok hf
      exact jw_ri C hJ hS (Nat.le_refl _) (Nat.le_refl _) dX2_readEvent_21
set_option maxHeartbeats 4000000 in
set_option maxRecDepth 100000 in
theorem cX2_readEvent_C (l : Launch) (G : jm_G) (h0 : Nat) (x1 : Int32) {S Sf : jm_S} {rv : Int32} (hf : fX2_readEvent h0 x1 S = some (rv, Sf)) : Met l yX2_readEvent wsX2_readEvent ({ frames := 0, cells := 0, slots := 0, locals := 0 } : Room) (jm_Pc G S [.ref h0, .int x1]) (jm_Q G (some (.int rv)) Sf) 0 0 (jm_A G) := by
  refine Met.ofW (cc := cX2_readEvent) (maxL := 2) (ret := (some .int)) (by decide) rfl ?_
  intro p e s m args below meth c s₁ B hml hv
  obtain ⟨rfl, hJ, hX⟩ := hv
  have C : jm_C G cX2_readEvent 2 RX2 wsX2_readEvent ((some .int)) p s m _ meth c := ⟨B.exec, B.bytes, hml, findClass_of_methodNamed B.named, atoms_spec (ws := wsX2_readEvent) B.pre, B.returns, B.notSynchronized, hX⟩
  obtain ⟨ls, he, hl⟩ := jm_entry m [.inr (some h0), .inl x1] (n := 2) (Nat.le_of_ble_eq_true rfl)
  have he : entryFrame m ([.ref h0, .int x1] : List Value).toArray 2 = F0 m 0 ls [] := he
  rw [he]
  exact kX2_readEvent C h0 x1 hf hJ va_S.rf (hl.sub [0, 1] rfl)
/-! CoordinationService.eventAt -/
def fX7_eventAt (h0 : Nat) (x1 : Int32) (x2 : Int32) : jm_P Int32 := jm_rd (jm_o (some h0) 8) fun a1 => jm_bd (fX7_findSession a1 x1) fun v1 => (if v1 = none then jm_ret (-1) else (if 0 ≤ x2 then jm_rd (jm_o v1 3) fun a4 => jm_bd (fX2_readEvent a4 x2) fun v4 => jm_ret v4 else jm_ret (-1)))
theorem moX7_eventAt (h0 : Nat) (x1 : Int32) (x2 : Int32) : jm_Mo (fX7_eventAt h0 x1 x2) := by
  unfold fX7_eventAt
  exact jm_Mo_rd (fun _ => jm_Mo_bd (moX7_findSession _ _) (fun _ => jm_Mo_if (jm_Mo_ret _) (jm_Mo_if (jm_Mo_rd (fun _ => jm_Mo_bd (moX2_readEvent _ _) (fun _ => jm_Mo_ret _))) (jm_Mo_ret _))))
set_option maxHeartbeats 4000000 in
set_option maxRecDepth 100000 in
theorem kX7_eventAt {rv : Int32} {Sf : jm_S} (C : jm_C G cX7_eventAt 4 RX7 wsX7_eventAt ((some .int)) p s m args meth c) : ∀ (h0 : Nat) (x1 : Int32) (x2 : Int32) {S : jm_S} {H : Heap} {locs : List Loc} {ls : Array Slot}, fX7_eventAt h0 x1 x2 S = some (rv, Sf) → jm_J G S H → va_S (jm_A G) s.heap H locs → jm_L ls 4 [(0, .inr (some h0)), (1, .inl x1), (2, .inl x2)] → W p l e ({ frames := 1, cells := 0, slots := 0, locals := 21 } : Room) s m args below meth c H locs 0 0 (MQ below (jm_Q G (some (.int rv)) Sf) args s 0 0 (jm_A G)) (F0 m 0 ls []) := by
  intro h0 x1 x2 S H locs ls hf hJ hS hl
  unfold fX7_eventAt at hf
  refine jw_aload_n C dX7_eventAt_0 rfl (hl.at 0 rfl) ?_
  refine lv_iload_n C.1 C.2.1 dX7_eventAt_1 rfl (hl.at 1 rfl) ?_
  obtain ⟨a1, o1, hf⟩ := jm_rd_ok hf
  obtain ⟨v1, S1, h1, hf⟩ := jm_bd_ok hf
  refine jw_cV (q := (RX7, TX7, 12)) C hJ hS o1 rfl (cX7_findSession_C l G a1 x1 h1) (cwV 1 C.2.2.2.2.1 gX7_eventAt_X7_findSession rfl rfl rfl (by decide +kernel) ⟨Nat.le_of_ble_eq_true rfl, Nat.le_of_ble_eq_true rfl⟩) rfl hl.1 rfl (Nat.le_of_ble_eq_true rfl) dX7_eventAt_2 ⟨Nat.le_refl _, Nat.le_refl _⟩ (fun H locs hJ hS => ?_)
  refine jw_astore_n C dX7_eventAt_5 rfl hl (by decide) rfl (fun ls hl => ?_)
  refine jw_aload_n C dX7_eventAt_6 rfl (hl.at 0 rfl) ?_
  refine jw_ifnull (tgt := 14) C dX7_eventAt_7 (by decide) (fun hq2 => ?_) (fun hq2 => ?_)
  · replace hf := jm_ift hf hq2
    refine lv_iconst (v := (-1)) C.1 C.2.1 dX7_eventAt_14 (by decide) ?_
    obtain ⟨rfl, rfl⟩ := jm_ret_ok hf
    exact jw_ri C hJ hS (Nat.le_refl _) (Nat.le_refl _) dX7_eventAt_15
  · replace hf := jm_iff hf hq2
    refine lv_iload_n C.1 C.2.1 dX7_eventAt_10 rfl (hl.at 3 rfl) ?_
    refine lv_if_ge (tgt := 16) C.1 C.2.1 dX7_eventAt_11 (by decide) (fun hq3 => ?_) (fun hq3 => ?_)
    · replace hf := jm_ift hf hq3
      refine jw_aload_n C dX7_eventAt_16 rfl (hl.at 0 rfl) ?_
      refine lv_iload_n C.1 C.2.1 dX7_eventAt_17 rfl (hl.at 3 rfl) ?_
      obtain ⟨a4, o4, hf⟩ := jm_rd_ok hf
      obtain ⟨v4, S4, h4, hf⟩ := jm_bd_ok hf
      refine jw_cV (q := (RX2, TX2, 3)) C hJ hS o4 rfl (cX2_readEvent_C l G a4 x2 h4) (cwV 1 C.2.2.2.2.1 gX7_eventAt_X2_readEvent rfl rfl rfl (by decide +kernel) ⟨Nat.le_of_ble_eq_true rfl, Nat.le_of_ble_eq_true rfl⟩) rfl hl.1 rfl (Nat.le_of_ble_eq_true rfl) dX7_eventAt_18 ⟨Nat.le_refl _, Nat.le_refl _⟩ (fun H locs hJ hS => ?_)
      obtain ⟨rfl, rfl⟩ := jm_ret_ok hf
      exact jw_ri C hJ hS (Nat.le_refl _) (Nat.le_refl _) dX7_eventAt_21
    · replace hf := jm_iff hf hq3
      refine lv_iconst (v := (-1)) C.1 C.2.1 dX7_eventAt_14 (by decide) ?_
      obtain ⟨rfl, rfl⟩ := jm_ret_ok hf
      exact jw_ri C hJ hS (Nat.le_refl _) (Nat.le_refl _) dX7_eventAt_15
set_option maxHeartbeats 4000000 in
set_option maxRecDepth 100000 in
theorem cX7_eventAt_C (l : Launch) (G : jm_G) (h0 : Nat) (x1 : Int32) (x2 : Int32) {S Sf : jm_S} {rv : Int32} (hf : fX7_eventAt h0 x1 x2 S = some (rv, Sf)) : Met l yX7_eventAt wsX7_eventAt ({ frames := 1, cells := 0, slots := 0, locals := 21 } : Room) (jm_Pc G S [.ref h0, .int x1, .int x2]) (jm_Q G (some (.int rv)) Sf) 0 0 (jm_A G) := by
  refine Met.ofW (cc := cX7_eventAt) (maxL := 4) (ret := (some .int)) (by decide) rfl ?_
  intro p e s m args below meth c s₁ B hml hv
  obtain ⟨rfl, hJ, hX⟩ := hv
  have C : jm_C G cX7_eventAt 4 RX7 wsX7_eventAt ((some .int)) p s m _ meth c := ⟨B.exec, B.bytes, hml, findClass_of_methodNamed B.named, atoms_spec (ws := wsX7_eventAt) B.pre, B.returns, B.notSynchronized, hX⟩
  obtain ⟨ls, he, hl⟩ := jm_entry m [.inr (some h0), .inl x1, .inl x2] (n := 4) (Nat.le_of_ble_eq_true rfl)
  have he : entryFrame m ([.ref h0, .int x1, .int x2] : List Value).toArray 4 = F0 m 0 ls [] := he
  rw [he]
  exact kX7_eventAt C h0 x1 x2 hf hJ va_S.rf (hl.sub [0, 1, 2] rfl)
/-! CoordinationService.nodeAt -/
def fX7_nodeAt (h0 : Nat) (x1 : Int32) : jm_P (Option Nat) := jm_rd (jm_o (some h0) 8) fun a1 => jm_bd (fX7_findServer a1 x1) fun v1 => (if v1 = none then jm_ret none else jm_rd (jm_gR v1 2 1) fun v3 => jm_rd (jm_gI (some h0) 8 10) fun v4 => jm_rd (jm_o v3 5) fun a5 => jm_bd (fX4_find a5 v4) fun v5 => jm_ret v5)
theorem inX7_nodeAt_X1 : ∀ w ∈ wsX10, w ∈ wsX7_nodeAt := fun _ h => List.mem_cons_of_mem _ (List.mem_append_left _ (List.mem_append_left _ (List.mem_append_left _ (List.mem_append_right _ h))))
theorem inX7_nodeAt_X7 : ∀ w ∈ wsX70, w ∈ wsX7_nodeAt := fun _ h => List.mem_cons_of_mem _ (List.mem_append_left _ (List.mem_append_left _ (List.mem_append_right _ h)))
theorem moX7_nodeAt (h0 : Nat) (x1 : Int32) : jm_Mo (fX7_nodeAt h0 x1) := by
  unfold fX7_nodeAt
  exact jm_Mo_rd (fun _ => jm_Mo_bd (moX7_findServer _ _) (fun _ => jm_Mo_if (jm_Mo_ret _) (jm_Mo_rd (fun _ => jm_Mo_rd (fun _ => jm_Mo_rd (fun _ => jm_Mo_bd (moX4_find _ _) (fun _ => jm_Mo_ret _)))))))
set_option maxHeartbeats 4000000 in
set_option maxRecDepth 100000 in
theorem kX7_nodeAt {rv : (Option Nat)} {Sf : jm_S} (C : jm_C G cX7_nodeAt 3 RX7 wsX7_nodeAt ((some (.object "CoordinationService$Node"))) p s m args meth c) : ∀ (h0 : Nat) (x1 : Int32) {S : jm_S} {H : Heap} {locs : List Loc} {ls : Array Slot}, fX7_nodeAt h0 x1 S = some (rv, Sf) → jm_J G S H → va_S (jm_A G) s.heap H locs → jm_L ls 3 [(0, .inr (some h0)), (1, .inl x1)] → W p l e ({ frames := 1, cells := 0, slots := 0, locals := 25 } : Room) s m args below meth c H locs 0 0 (MQ below (jm_Q G (some (va_rf rv)) Sf) args s 0 0 (jm_A G)) (F0 m 0 ls []) := by
  intro h0 x1 S H locs ls hf hJ hS hl
  unfold fX7_nodeAt at hf
  refine jw_aload_n C dX7_nodeAt_0 rfl (hl.at 0 rfl) ?_
  refine lv_iload_n C.1 C.2.1 dX7_nodeAt_1 rfl (hl.at 1 rfl) ?_
  obtain ⟨a1, o1, hf⟩ := jm_rd_ok hf
  obtain ⟨v1, S1, h1, hf⟩ := jm_bd_ok hf
  refine jw_cV (q := (RX7, TX7, 12)) C hJ hS o1 rfl (cX7_findServer_C l G a1 x1 h1) (cwV 1 C.2.2.2.2.1 gX7_nodeAt_X7_findServer rfl rfl rfl (by decide +kernel) ⟨Nat.le_of_ble_eq_true rfl, Nat.le_of_ble_eq_true rfl⟩) rfl hl.1 rfl (Nat.le_of_ble_eq_true rfl) dX7_nodeAt_2 ⟨Nat.le_refl _, Nat.le_refl _⟩ (fun H locs hJ hS => ?_)
  refine jw_astore_n C dX7_nodeAt_5 rfl hl (by decide) rfl (fun ls hl => ?_)
  refine jw_aload_n C dX7_nodeAt_6 rfl (hl.at 0 rfl) ?_
  refine jw_ifnonnull (tgt := 14) C dX7_nodeAt_7 (by decide) (fun hq2 => ?_) (fun hq2 => ?_)
  · replace hf := jm_iff hf hq2
    refine jw_aload_n C dX7_nodeAt_14 rfl (hl.at 0 rfl) ?_
    obtain ⟨v3, h3, hf⟩ := jm_rd_ok hf
    refine jw_gR (Cn := RX1) (T := TX1) (N := 7) C hJ h3 rfl inX7_nodeAt_X1 (by decide) (jm_w C 1 rfl) (fun _ h => h) dX7_nodeAt_15 ?_
    refine jw_aload_n C dX7_nodeAt_18 rfl (hl.at 1 rfl) ?_
    obtain ⟨v4, h4, hf⟩ := jm_rd_ok hf
    refine jw_gI (Cn := RX7) (T := TX7) (N := 12) C hJ h4 rfl inX7_nodeAt_X7 (by decide) (jm_w C 2 rfl) (fun _ h => h) dX7_nodeAt_19 ?_
    obtain ⟨a5, o5, hf⟩ := jm_rd_ok hf
    obtain ⟨v5, S5, h5, hf⟩ := jm_bd_ok hf
    refine jw_cV (q := (RX4, TX4, 2)) C hJ hS o5 rfl (cX4_find_C l G a5 v4 h5) (cwV 1 C.2.2.2.2.1 gX7_nodeAt_X4_find rfl rfl rfl (by decide +kernel) ⟨Nat.le_of_ble_eq_true rfl, Nat.le_of_ble_eq_true rfl⟩) rfl hl.1 rfl (Nat.le_of_ble_eq_true rfl) dX7_nodeAt_22 ⟨Nat.le_refl _, Nat.le_refl _⟩ (fun H locs hJ hS => ?_)
    obtain ⟨rfl, rfl⟩ := jm_ret_ok hf
    exact jw_ra C (Or.inl ⟨_, rfl⟩) hJ hS (Nat.le_refl _) (Nat.le_refl _) dX7_nodeAt_25
  · replace hf := jm_ift hf hq2
    refine lv_null C.1 C.2.1 dX7_nodeAt_10 ?_
    show W _ _ _ _ _ _ _ _ _ _ _ _ _ _ _ (F0 _ _ _ (va_rf none :: _))
    refine lv_goto (tgt := 25) C.1 C.2.1 dX7_nodeAt_11 (by decide) ?_
    obtain ⟨rfl, rfl⟩ := jm_ret_ok hf
    exact jw_ra C (Or.inl ⟨_, rfl⟩) hJ hS (Nat.le_refl _) (Nat.le_refl _) dX7_nodeAt_25
set_option maxHeartbeats 4000000 in
set_option maxRecDepth 100000 in
theorem cX7_nodeAt_C (l : Launch) (G : jm_G) (h0 : Nat) (x1 : Int32) {S Sf : jm_S} {rv : (Option Nat)} (hf : fX7_nodeAt h0 x1 S = some (rv, Sf)) : Met l yX7_nodeAt wsX7_nodeAt ({ frames := 1, cells := 0, slots := 0, locals := 25 } : Room) (jm_Pc G S [.ref h0, .int x1]) (jm_Q G (some (va_rf rv)) Sf) 0 0 (jm_A G) := by
  refine Met.ofW (cc := cX7_nodeAt) (maxL := 3) (ret := (some (.object "CoordinationService$Node"))) (by decide) rfl ?_
  intro p e s m args below meth c s₁ B hml hv
  obtain ⟨rfl, hJ, hX⟩ := hv
  have C : jm_C G cX7_nodeAt 3 RX7 wsX7_nodeAt ((some (.object "CoordinationService$Node"))) p s m _ meth c := ⟨B.exec, B.bytes, hml, findClass_of_methodNamed B.named, atoms_spec (ws := wsX7_nodeAt) B.pre, B.returns, B.notSynchronized, hX⟩
  obtain ⟨ls, he, hl⟩ := jm_entry m [.inr (some h0), .inl x1] (n := 3) (Nat.le_of_ble_eq_true rfl)
  have he : entryFrame m ([.ref h0, .int x1] : List Value).toArray 3 = F0 m 0 ls [] := he
  rw [he]
  exact kX7_nodeAt C h0 x1 hf hJ va_S.rf (hl.sub [0, 1] rfl)
/-! CoordinationService.nodeError -/
def fX7_nodeError (h0 : Nat) (x1 : Int32) : jm_P Int32 := jm_rd (jm_o (some h0) 8) fun a1 => jm_bd (fX7_findServer a1 x1) fun v1 => (if v1 = none then jm_ret (-1) else jm_rd (jm_gI (some h0) 8 10) fun v3 => (if v3 = 0 then jm_ret (-2) else jm_ret (-3)))
theorem inX7_nodeError_X7 : ∀ w ∈ wsX70, w ∈ wsX7_nodeError := fun _ h => List.mem_cons_of_mem _ (List.mem_append_right _ h)
theorem moX7_nodeError (h0 : Nat) (x1 : Int32) : jm_Mo (fX7_nodeError h0 x1) := by
  unfold fX7_nodeError
  exact jm_Mo_rd (fun _ => jm_Mo_bd (moX7_findServer _ _) (fun _ => jm_Mo_if (jm_Mo_ret _) (jm_Mo_rd (fun _ => jm_Mo_if (jm_Mo_ret _) (jm_Mo_ret _)))))
set_option maxHeartbeats 4000000 in
set_option maxRecDepth 100000 in
theorem kX7_nodeError {rv : Int32} {Sf : jm_S} (C : jm_C G cX7_nodeError 2 RX7 wsX7_nodeError ((some .int)) p s m args meth c) : ∀ (h0 : Nat) (x1 : Int32) {S : jm_S} {H : Heap} {locs : List Loc} {ls : Array Slot}, fX7_nodeError h0 x1 S = some (rv, Sf) → jm_J G S H → va_S (jm_A G) s.heap H locs → jm_L ls 2 [(0, .inr (some h0)), (1, .inl x1)] → W p l e ({ frames := 1, cells := 0, slots := 0, locals := 21 } : Room) s m args below meth c H locs 0 0 (MQ below (jm_Q G (some (.int rv)) Sf) args s 0 0 (jm_A G)) (F0 m 0 ls []) := by
  intro h0 x1 S H locs ls hf hJ hS hl
  unfold fX7_nodeError at hf
  refine jw_aload_n C dX7_nodeError_0 rfl (hl.at 0 rfl) ?_
  refine lv_iload_n C.1 C.2.1 dX7_nodeError_1 rfl (hl.at 1 rfl) ?_
  obtain ⟨a1, o1, hf⟩ := jm_rd_ok hf
  obtain ⟨v1, S1, h1, hf⟩ := jm_bd_ok hf
  refine jw_cV (q := (RX7, TX7, 12)) C hJ hS o1 rfl (cX7_findServer_C l G a1 x1 h1) (cwV 1 C.2.2.2.2.1 gX7_nodeError_X7_findServer rfl rfl rfl (by decide +kernel) ⟨Nat.le_of_ble_eq_true rfl, Nat.le_of_ble_eq_true rfl⟩) rfl hl.1 rfl (Nat.le_of_ble_eq_true rfl) dX7_nodeError_2 ⟨Nat.le_refl _, Nat.le_refl _⟩ (fun H locs hJ hS => ?_)
  refine jw_ifnonnull (tgt := 10) C dX7_nodeError_5 (by decide) (fun hq2 => ?_) (fun hq2 => ?_)
  · replace hf := jm_iff hf hq2
    refine jw_aload_n C dX7_nodeError_10 rfl (hl.at 0 rfl) ?_
    obtain ⟨v3, h3, hf⟩ := jm_rd_ok hf
    refine jw_gI (Cn := RX7) (T := TX7) (N := 12) C hJ h3 rfl inX7_nodeError_X7 (by decide) (jm_w C 1 rfl) (fun _ h => h) dX7_nodeError_11 ?_
    refine lv_if_ne (tgt := 22) C.1 C.2.1 dX7_nodeError_14 (by decide) (fun hq4 => ?_) (fun hq4 => ?_)
    · replace hf := jm_iff hf hq4
      refine lv_bipush (v := (-3)) C.1 C.2.1 dX7_nodeError_22 (by decide) ?_
      obtain ⟨rfl, rfl⟩ := jm_ret_ok hf
      exact jw_ri C hJ hS (Nat.le_refl _) (Nat.le_refl _) dX7_nodeError_24
    · replace hf := jm_ift hf hq4
      refine lv_bipush (v := (-2)) C.1 C.2.1 dX7_nodeError_17 (by decide) ?_
      refine lv_goto (tgt := 24) C.1 C.2.1 dX7_nodeError_19 (by decide) ?_
      obtain ⟨rfl, rfl⟩ := jm_ret_ok hf
      exact jw_ri C hJ hS (Nat.le_refl _) (Nat.le_refl _) dX7_nodeError_24
  · replace hf := jm_ift hf hq2
    refine lv_iconst (v := (-1)) C.1 C.2.1 dX7_nodeError_8 (by decide) ?_
    obtain ⟨rfl, rfl⟩ := jm_ret_ok hf
    exact jw_ri C hJ hS (Nat.le_refl _) (Nat.le_refl _) dX7_nodeError_9
set_option maxHeartbeats 4000000 in
set_option maxRecDepth 100000 in
theorem cX7_nodeError_C (l : Launch) (G : jm_G) (h0 : Nat) (x1 : Int32) {S Sf : jm_S} {rv : Int32} (hf : fX7_nodeError h0 x1 S = some (rv, Sf)) : Met l yX7_nodeError wsX7_nodeError ({ frames := 1, cells := 0, slots := 0, locals := 21 } : Room) (jm_Pc G S [.ref h0, .int x1]) (jm_Q G (some (.int rv)) Sf) 0 0 (jm_A G) := by
  refine Met.ofW (cc := cX7_nodeError) (maxL := 2) (ret := (some .int)) (by decide) rfl ?_
  intro p e s m args below meth c s₁ B hml hv
  obtain ⟨rfl, hJ, hX⟩ := hv
  have C : jm_C G cX7_nodeError 2 RX7 wsX7_nodeError ((some .int)) p s m _ meth c := ⟨B.exec, B.bytes, hml, findClass_of_methodNamed B.named, atoms_spec (ws := wsX7_nodeError) B.pre, B.returns, B.notSynchronized, hX⟩
  obtain ⟨ls, he, hl⟩ := jm_entry m [.inr (some h0), .inl x1] (n := 2) (Nat.le_of_ble_eq_true rfl)
  have he : entryFrame m ([.ref h0, .int x1] : List Value).toArray 2 = F0 m 0 ls [] := he
  rw [he]
  exact kX7_nodeError C h0 x1 hf hJ va_S.rf (hl.sub [0, 1] rfl)
/-! CoordinationService.dataAt -/
def fX7_dataAt (h0 : Nat) (x1 : Int32) : jm_P Int32 := jm_rd (jm_o (some h0) 8) fun a1 => jm_bd (fX7_nodeAt a1 x1) fun v1 => (if v1 = none then jm_rd (jm_o (some h0) 8) fun a4 => jm_bd (fX7_nodeError a4 x1) fun v4 => jm_ret v4 else jm_rd (jm_gI v1 1 1) fun v3 => jm_ret v3)
theorem inX7_dataAt_X0 : ∀ w ∈ wsX00, w ∈ wsX7_dataAt := fun _ h => List.mem_cons_of_mem _ (List.mem_append_left _ (List.mem_append_left _ (List.mem_append_left _ (List.mem_append_right _ h))))
theorem moX7_dataAt (h0 : Nat) (x1 : Int32) : jm_Mo (fX7_dataAt h0 x1) := by
  unfold fX7_dataAt
  exact jm_Mo_rd (fun _ => jm_Mo_bd (moX7_nodeAt _ _) (fun _ => jm_Mo_if (jm_Mo_rd (fun _ => jm_Mo_bd (moX7_nodeError _ _) (fun _ => jm_Mo_ret _))) (jm_Mo_rd (fun _ => jm_Mo_ret _))))
set_option maxHeartbeats 4000000 in
set_option maxRecDepth 100000 in
theorem kX7_dataAt {rv : Int32} {Sf : jm_S} (C : jm_C G cX7_dataAt 3 RX7 wsX7_dataAt ((some .int)) p s m args meth c) : ∀ (h0 : Nat) (x1 : Int32) {S : jm_S} {H : Heap} {locs : List Loc} {ls : Array Slot}, fX7_dataAt h0 x1 S = some (rv, Sf) → jm_J G S H → va_S (jm_A G) s.heap H locs → jm_L ls 3 [(0, .inr (some h0)), (1, .inl x1)] → W p l e ({ frames := 2, cells := 0, slots := 0, locals := 47 } : Room) s m args below meth c H locs 0 0 (MQ below (jm_Q G (some (.int rv)) Sf) args s 0 0 (jm_A G)) (F0 m 0 ls []) := by
  intro h0 x1 S H locs ls hf hJ hS hl
  unfold fX7_dataAt at hf
  refine jw_aload_n C dX7_dataAt_0 rfl (hl.at 0 rfl) ?_
  refine lv_iload_n C.1 C.2.1 dX7_dataAt_1 rfl (hl.at 1 rfl) ?_
  obtain ⟨a1, o1, hf⟩ := jm_rd_ok hf
  obtain ⟨v1, S1, h1, hf⟩ := jm_bd_ok hf
  refine jw_cV (q := (RX7, TX7, 12)) C hJ hS o1 rfl (cX7_nodeAt_C l G a1 x1 h1) (cwV 1 C.2.2.2.2.1 gX7_dataAt_X7_nodeAt rfl rfl rfl (by decide +kernel) ⟨Nat.le_of_ble_eq_true rfl, Nat.le_of_ble_eq_true rfl⟩) rfl hl.1 rfl (Nat.le_of_ble_eq_true rfl) dX7_dataAt_2 ⟨Nat.le_refl _, Nat.le_refl _⟩ (fun H locs hJ hS => ?_)
  refine jw_astore_n C dX7_dataAt_5 rfl hl (by decide) rfl (fun ls hl => ?_)
  refine jw_aload_n C dX7_dataAt_6 rfl (hl.at 0 rfl) ?_
  refine jw_ifnonnull (tgt := 18) C dX7_dataAt_7 (by decide) (fun hq2 => ?_) (fun hq2 => ?_)
  · replace hf := jm_iff hf hq2
    refine jw_aload_n C dX7_dataAt_18 rfl (hl.at 0 rfl) ?_
    obtain ⟨v3, h3, hf⟩ := jm_rd_ok hf
    refine jw_gI (Cn := RX0) (T := TX0) (N := 4) C hJ h3 rfl inX7_dataAt_X0 (by decide) (jm_w C 1 rfl) (fun _ h => h) dX7_dataAt_19 ?_
    obtain ⟨rfl, rfl⟩ := jm_ret_ok hf
    exact jw_ri C hJ hS (Nat.le_refl _) (Nat.le_refl _) dX7_dataAt_22
  · replace hf := jm_ift hf hq2
    refine jw_aload_n C dX7_dataAt_10 rfl (hl.at 1 rfl) ?_
    refine lv_iload_n C.1 C.2.1 dX7_dataAt_11 rfl (hl.at 2 rfl) ?_
    obtain ⟨a4, o4, hf⟩ := jm_rd_ok hf
    obtain ⟨v4, S4, h4, hf⟩ := jm_bd_ok hf
    refine jw_cV (q := (RX7, TX7, 12)) C hJ hS o4 rfl (cX7_nodeError_C l G a4 x1 h4) (cwV 1 C.2.2.2.2.1 gX7_dataAt_X7_nodeError rfl rfl rfl (by decide +kernel) ⟨Nat.le_of_ble_eq_true rfl, Nat.le_of_ble_eq_true rfl⟩) rfl hl.1 rfl (Nat.le_of_ble_eq_true rfl) dX7_dataAt_12 ⟨Nat.le_refl _, Nat.le_refl _⟩ (fun H locs hJ hS => ?_)
    refine lv_goto (tgt := 22) C.1 C.2.1 dX7_dataAt_15 (by decide) ?_
    obtain ⟨rfl, rfl⟩ := jm_ret_ok hf
    exact jw_ri C hJ hS (Nat.le_refl _) (Nat.le_refl _) dX7_dataAt_22
set_option maxHeartbeats 4000000 in
set_option maxRecDepth 100000 in
theorem cX7_dataAt_C (l : Launch) (G : jm_G) (h0 : Nat) (x1 : Int32) {S Sf : jm_S} {rv : Int32} (hf : fX7_dataAt h0 x1 S = some (rv, Sf)) : Met l yX7_dataAt wsX7_dataAt ({ frames := 2, cells := 0, slots := 0, locals := 47 } : Room) (jm_Pc G S [.ref h0, .int x1]) (jm_Q G (some (.int rv)) Sf) 0 0 (jm_A G) := by
  refine Met.ofW (cc := cX7_dataAt) (maxL := 3) (ret := (some .int)) (by decide) rfl ?_
  intro p e s m args below meth c s₁ B hml hv
  obtain ⟨rfl, hJ, hX⟩ := hv
  have C : jm_C G cX7_dataAt 3 RX7 wsX7_dataAt ((some .int)) p s m _ meth c := ⟨B.exec, B.bytes, hml, findClass_of_methodNamed B.named, atoms_spec (ws := wsX7_dataAt) B.pre, B.returns, B.notSynchronized, hX⟩
  obtain ⟨ls, he, hl⟩ := jm_entry m [.inr (some h0), .inl x1] (n := 3) (Nat.le_of_ble_eq_true rfl)
  have he : entryFrame m ([.ref h0, .int x1] : List Value).toArray 3 = F0 m 0 ls [] := he
  rw [he]
  exact kX7_dataAt C h0 x1 hf hJ va_S.rf (hl.sub [0, 1] rfl)
/-! CoordinationService.versionAt -/
def fX7_versionAt (h0 : Nat) (x1 : Int32) : jm_P Int32 := jm_rd (jm_o (some h0) 8) fun a1 => jm_bd (fX7_nodeAt a1 x1) fun v1 => (if v1 = none then jm_rd (jm_o (some h0) 8) fun a4 => jm_bd (fX7_nodeError a4 x1) fun v4 => jm_ret v4 else jm_rd (jm_gI v1 1 2) fun v3 => jm_ret v3)
theorem inX7_versionAt_X0 : ∀ w ∈ wsX00, w ∈ wsX7_versionAt := fun _ h => List.mem_cons_of_mem _ (List.mem_append_left _ (List.mem_append_left _ (List.mem_append_left _ (List.mem_append_right _ h))))
theorem moX7_versionAt (h0 : Nat) (x1 : Int32) : jm_Mo (fX7_versionAt h0 x1) := by
  unfold fX7_versionAt
  exact jm_Mo_rd (fun _ => jm_Mo_bd (moX7_nodeAt _ _) (fun _ => jm_Mo_if (jm_Mo_rd (fun _ => jm_Mo_bd (moX7_nodeError _ _) (fun _ => jm_Mo_ret _))) (jm_Mo_rd (fun _ => jm_Mo_ret _))))
set_option maxHeartbeats 4000000 in
set_option maxRecDepth 100000 in
theorem kX7_versionAt {rv : Int32} {Sf : jm_S} (C : jm_C G cX7_versionAt 3 RX7 wsX7_versionAt ((some .int)) p s m args meth c) : ∀ (h0 : Nat) (x1 : Int32) {S : jm_S} {H : Heap} {locs : List Loc} {ls : Array Slot}, fX7_versionAt h0 x1 S = some (rv, Sf) → jm_J G S H → va_S (jm_A G) s.heap H locs → jm_L ls 3 [(0, .inr (some h0)), (1, .inl x1)] → W p l e ({ frames := 2, cells := 0, slots := 0, locals := 47 } : Room) s m args below meth c H locs 0 0 (MQ below (jm_Q G (some (.int rv)) Sf) args s 0 0 (jm_A G)) (F0 m 0 ls []) := by
  intro h0 x1 S H locs ls hf hJ hS hl
  unfold fX7_versionAt at hf
  refine jw_aload_n C dX7_versionAt_0 rfl (hl.at 0 rfl) ?_
  refine lv_iload_n C.1 C.2.1 dX7_versionAt_1 rfl (hl.at 1 rfl) ?_
  obtain ⟨a1, o1, hf⟩ := jm_rd_ok hf
  obtain ⟨v1, S1, h1, hf⟩ := jm_bd_ok hf
  refine jw_cV (q := (RX7, TX7, 12)) C hJ hS o1 rfl (cX7_nodeAt_C l G a1 x1 h1) (cwV 1 C.2.2.2.2.1 gX7_versionAt_X7_nodeAt rfl rfl rfl (by decide +kernel) ⟨Nat.le_of_ble_eq_true rfl, Nat.le_of_ble_eq_true rfl⟩) rfl hl.1 rfl (Nat.le_of_ble_eq_true rfl) dX7_versionAt_2 ⟨Nat.le_refl _, Nat.le_refl _⟩ (fun H locs hJ hS => ?_)
  refine jw_astore_n C dX7_versionAt_5 rfl hl (by decide) rfl (fun ls hl => ?_)
  refine jw_aload_n C dX7_versionAt_6 rfl (hl.at 0 rfl) ?_
  refine jw_ifnonnull (tgt := 18) C dX7_versionAt_7 (by decide) (fun hq2 => ?_) (fun hq2 => ?_)
  · replace hf := jm_iff hf hq2
    refine jw_aload_n C dX7_versionAt_18 rfl (hl.at 0 rfl) ?_
    obtain ⟨v3, h3, hf⟩ := jm_rd_ok hf
    refine jw_gI (Cn := RX0) (T := TX0) (N := 4) C hJ h3 rfl inX7_versionAt_X0 (by decide) (jm_w C 1 rfl) (fun _ h => h) dX7_versionAt_19 ?_
    obtain ⟨rfl, rfl⟩ := jm_ret_ok hf
    exact jw_ri C hJ hS (Nat.le_refl _) (Nat.le_refl _) dX7_versionAt_22
  · replace hf := jm_ift hf hq2
    refine jw_aload_n C dX7_versionAt_10 rfl (hl.at 1 rfl) ?_
    refine lv_iload_n C.1 C.2.1 dX7_versionAt_11 rfl (hl.at 2 rfl) ?_
    obtain ⟨a4, o4, hf⟩ := jm_rd_ok hf
    obtain ⟨v4, S4, h4, hf⟩ := jm_bd_ok hf
    refine jw_cV (q := (RX7, TX7, 12)) C hJ hS o4 rfl (cX7_nodeError_C l G a4 x1 h4) (cwV 1 C.2.2.2.2.1 gX7_versionAt_X7_nodeError rfl rfl rfl (by decide +kernel) ⟨Nat.le_of_ble_eq_true rfl, Nat.le_of_ble_eq_true rfl⟩) rfl hl.1 rfl (Nat.le_of_ble_eq_true rfl) dX7_versionAt_12 ⟨Nat.le_refl _, Nat.le_refl _⟩ (fun H locs hJ hS => ?_)
    refine lv_goto (tgt := 22) C.1 C.2.1 dX7_versionAt_15 (by decide) ?_
    obtain ⟨rfl, rfl⟩ := jm_ret_ok hf
    exact jw_ri C hJ hS (Nat.le_refl _) (Nat.le_refl _) dX7_versionAt_22
set_option maxHeartbeats 4000000 in
set_option maxRecDepth 100000 in
theorem cX7_versionAt_C (l : Launch) (G : jm_G) (h0 : Nat) (x1 : Int32) {S Sf : jm_S} {rv : Int32} (hf : fX7_versionAt h0 x1 S = some (rv, Sf)) : Met l yX7_versionAt wsX7_versionAt ({ frames := 2, cells := 0, slots := 0, locals := 47 } : Room) (jm_Pc G S [.ref h0, .int x1]) (jm_Q G (some (.int rv)) Sf) 0 0 (jm_A G) := by
  refine Met.ofW (cc := cX7_versionAt) (maxL := 3) (ret := (some .int)) (by decide) rfl ?_
  intro p e s m args below meth c s₁ B hml hv
  obtain ⟨rfl, hJ, hX⟩ := hv
  have C : jm_C G cX7_versionAt 3 RX7 wsX7_versionAt ((some .int)) p s m _ meth c := ⟨B.exec, B.bytes, hml, findClass_of_methodNamed B.named, atoms_spec (ws := wsX7_versionAt) B.pre, B.returns, B.notSynchronized, hX⟩
  obtain ⟨ls, he, hl⟩ := jm_entry m [.inr (some h0), .inl x1] (n := 3) (Nat.le_of_ble_eq_true rfl)
  have he : entryFrame m ([.ref h0, .int x1] : List Value).toArray 3 = F0 m 0 ls [] := he
  rw [he]
  exact kX7_versionAt C h0 x1 hf hJ va_S.rf (hl.sub [0, 1] rfl)
/-! CoordinationService.ownerAt -/
def fX7_ownerAt (h0 : Nat) (x1 : Int32) : jm_P Int32 := jm_rd (jm_o (some h0) 8) fun a1 => jm_bd (fX7_nodeAt a1 x1) fun v1 => (if v1 = none then jm_rd (jm_o (some h0) 8) fun a4 => jm_bd (fX7_nodeError a4 x1) fun v4 => jm_ret v4 else jm_rd (jm_gI v1 1 3) fun v3 => jm_ret v3)
theorem inX7_ownerAt_X0 : ∀ w ∈ wsX00, w ∈ wsX7_ownerAt := fun _ h => List.mem_cons_of_mem _ (List.mem_append_left _ (List.mem_append_left _ (List.mem_append_left _ (List.mem_append_right _ h))))
theorem moX7_ownerAt (h0 : Nat) (x1 : Int32) : jm_Mo (fX7_ownerAt h0 x1) := by
  unfold fX7_ownerAt
  exact jm_Mo_rd (fun _ => jm_Mo_bd (moX7_nodeAt _ _) (fun _ => jm_Mo_if (jm_Mo_rd (fun _ => jm_Mo_bd (moX7_nodeError _ _) (fun _ => jm_Mo_ret _))) (jm_Mo_rd (fun _ => jm_Mo_ret _))))
set_option maxHeartbeats 4000000 in
set_option maxRecDepth 100000 in
theorem kX7_ownerAt {rv : Int32} {Sf : jm_S} (C : jm_C G cX7_ownerAt 3 RX7 wsX7_ownerAt ((some .int)) p s m args meth c) : ∀ (h0 : Nat) (x1 : Int32) {S : jm_S} {H : Heap} {locs : List Loc} {ls : Array Slot}, fX7_ownerAt h0 x1 S = some (rv, Sf) → jm_J G S H → va_S (jm_A G) s.heap H locs → jm_L ls 3 [(0, .inr (some h0)), (1, .inl x1)] → W p l e ({ frames := 2, cells := 0, slots := 0, locals := 47 } : Room) s m args below meth c H locs 0 0 (MQ below (jm_Q G (some (.int rv)) Sf) args s 0 0 (jm_A G)) (F0 m 0 ls []) := by
  intro h0 x1 S H locs ls hf hJ hS hl
  unfold fX7_ownerAt at hf
  refine jw_aload_n C dX7_ownerAt_0 rfl (hl.at 0 rfl) ?_
  refine lv_iload_n C.1 C.2.1 dX7_ownerAt_1 rfl (hl.at 1 rfl) ?_
  obtain ⟨a1, o1, hf⟩ := jm_rd_ok hf
  obtain ⟨v1, S1, h1, hf⟩ := jm_bd_ok hf
  refine jw_cV (q := (RX7, TX7, 12)) C hJ hS o1 rfl (cX7_nodeAt_C l G a1 x1 h1) (cwV 1 C.2.2.2.2.1 gX7_ownerAt_X7_nodeAt rfl rfl rfl (by decide +kernel) ⟨Nat.le_of_ble_eq_true rfl, Nat.le_of_ble_eq_true rfl⟩) rfl hl.1 rfl (Nat.le_of_ble_eq_true rfl) dX7_ownerAt_2 ⟨Nat.le_refl _, Nat.le_refl _⟩ (fun H locs hJ hS => ?_)
  refine jw_astore_n C dX7_ownerAt_5 rfl hl (by decide) rfl (fun ls hl => ?_)
  refine jw_aload_n C dX7_ownerAt_6 rfl (hl.at 0 rfl) ?_
  refine jw_ifnonnull (tgt := 18) C dX7_ownerAt_7 (by decide) (fun hq2 => ?_) (fun hq2 => ?_)
  · replace hf := jm_iff hf hq2
    refine jw_aload_n C dX7_ownerAt_18 rfl (hl.at 0 rfl) ?_
    obtain ⟨v3, h3, hf⟩ := jm_rd_ok hf
    refine jw_gI (Cn := RX0) (T := TX0) (N := 4) C hJ h3 rfl inX7_ownerAt_X0 (by decide) (jm_w C 1 rfl) (fun _ h => h) dX7_ownerAt_19 ?_
    obtain ⟨rfl, rfl⟩ := jm_ret_ok hf
    exact jw_ri C hJ hS (Nat.le_refl _) (Nat.le_refl _) dX7_ownerAt_22
  · replace hf := jm_ift hf hq2
    refine jw_aload_n C dX7_ownerAt_10 rfl (hl.at 1 rfl) ?_
    refine lv_iload_n C.1 C.2.1 dX7_ownerAt_11 rfl (hl.at 2 rfl) ?_
    obtain ⟨a4, o4, hf⟩ := jm_rd_ok hf
    obtain ⟨v4, S4, h4, hf⟩ := jm_bd_ok hf
    refine jw_cV (q := (RX7, TX7, 12)) C hJ hS o4 rfl (cX7_nodeError_C l G a4 x1 h4) (cwV 1 C.2.2.2.2.1 gX7_ownerAt_X7_nodeError rfl rfl rfl (by decide +kernel) ⟨Nat.le_of_ble_eq_true rfl, Nat.le_of_ble_eq_true rfl⟩) rfl hl.1 rfl (Nat.le_of_ble_eq_true rfl) dX7_ownerAt_12 ⟨Nat.le_refl _, Nat.le_refl _⟩ (fun H locs hJ hS => ?_)
    refine lv_goto (tgt := 22) C.1 C.2.1 dX7_ownerAt_15 (by decide) ?_
    obtain ⟨rfl, rfl⟩ := jm_ret_ok hf
    exact jw_ri C hJ hS (Nat.le_refl _) (Nat.le_refl _) dX7_ownerAt_22
set_option maxHeartbeats 4000000 in
set_option maxRecDepth 100000 in
theorem cX7_ownerAt_C (l : Launch) (G : jm_G) (h0 : Nat) (x1 : Int32) {S Sf : jm_S} {rv : Int32} (hf : fX7_ownerAt h0 x1 S = some (rv, Sf)) : Met l yX7_ownerAt wsX7_ownerAt ({ frames := 2, cells := 0, slots := 0, locals := 47 } : Room) (jm_Pc G S [.ref h0, .int x1]) (jm_Q G (some (.int rv)) Sf) 0 0 (jm_A G) := by
  refine Met.ofW (cc := cX7_ownerAt) (maxL := 3) (ret := (some .int)) (by decide) rfl ?_
  intro p e s m args below meth c s₁ B hml hv
  obtain ⟨rfl, hJ, hX⟩ := hv
  have C : jm_C G cX7_ownerAt 3 RX7 wsX7_ownerAt ((some .int)) p s m _ meth c := ⟨B.exec, B.bytes, hml, findClass_of_methodNamed B.named, atoms_spec (ws := wsX7_ownerAt) B.pre, B.returns, B.notSynchronized, hX⟩
  obtain ⟨ls, he, hl⟩ := jm_entry m [.inr (some h0), .inl x1] (n := 3) (Nat.le_of_ble_eq_true rfl)
  have he : entryFrame m ([.ref h0, .int x1] : List Value).toArray 3 = F0 m 0 ls [] := he
  rw [he]
  exact kX7_ownerAt C h0 x1 hf hJ va_S.rf (hl.sub [0, 1] rfl)
/-! CoordinationService.childCount -/
def fX7_childCount (h0 : Nat) (x1 : Int32) : jm_P Int32 := jm_rd (jm_o (some h0) 8) fun a1 => jm_bd (fX7_findServer a1 x1) fun v1 => (if v1 = none then jm_ret (-1) else jm_rd (jm_gI (some h0) 8 10) fun v3 => (if v3 = 0 then jm_rd (jm_gR v1 2 1) fun v5 => jm_rd (jm_gI (some h0) 8 10) fun v6 => jm_rd (jm_o v5 5) fun a7 => jm_bd (fX4_countChildren a7 v6) fun v7 => jm_ret v7 else jm_rd (jm_gR v1 2 1) fun v8 => jm_rd (jm_gI (some h0) 8 10) fun v9 => jm_rd (jm_o v8 5) fun a10 => jm_bd (fX4_find a10 v9) fun v10 => (if v10 = none then jm_ret (-3) else jm_rd (jm_gR v1 2 1) fun v12 => jm_rd (jm_gI (some h0) 8 10) fun v13 => jm_rd (jm_o v12 5) fun a14 => jm_bd (fX4_countChildren a14 v13) fun v14 => jm_ret v14)))
theorem inX7_childCount_X7 : ∀ w ∈ wsX70, w ∈ wsX7_childCount := fun _ h => List.mem_cons_of_mem _ (List.mem_append_left _ (List.mem_append_left _ (List.mem_append_left _ (List.mem_append_right _ h))))
theorem inX7_childCount_X1 : ∀ w ∈ wsX10, w ∈ wsX7_childCount := fun _ h => List.mem_cons_of_mem _ (List.mem_append_left _ (List.mem_append_left _ (List.mem_append_right _ h)))
theorem moX7_childCount (h0 : Nat) (x1 : Int32) : jm_Mo (fX7_childCount h0 x1) := by
  unfold fX7_childCount
  exact jm_Mo_rd (fun _ => jm_Mo_bd (moX7_findServer _ _) (fun _ => jm_Mo_if (jm_Mo_ret _) (jm_Mo_rd (fun _ => jm_Mo_if (jm_Mo_rd (fun _ => jm_Mo_rd (fun _ => jm_Mo_rd (fun _ => jm_Mo_bd (moX4_countChildren _ _) (fun _ => jm_Mo_ret _))))) (jm_Mo_rd (fun _ => jm_Mo_rd (fun _ => jm_Mo_rd (fun _ => jm_Mo_bd (moX4_find _ _) (fun _ => jm_Mo_if (jm_Mo_ret _) (jm_Mo_rd (fun _ => jm_Mo_rd (fun _ => jm_Mo_rd (fun _ => jm_Mo_bd (moX4_countChildren _ _) (fun _ => jm_Mo_ret _))))))))))))))
set_option maxHeartbeats 4000000 in
set_option maxRecDepth 100000 in
theorem kX7_childCount {rv : Int32} {Sf : jm_S} (C : jm_C G cX7_childCount 3 RX7 wsX7_childCount ((some .int)) p s m args meth c) : ∀ (h0 : Nat) (x1 : Int32) {S : jm_S} {H : Heap} {locs : List Loc} {ls : Array Slot}, fX7_childCount h0 x1 S = some (rv, Sf) → jm_J G S H → va_S (jm_A G) s.heap H locs → jm_L ls 3 [(0, .inr (some h0)), (1, .inl x1)] → W p l e ({ frames := 2, cells := 0, slots := 0, locals := 46 } : Room) s m args below meth c H locs 0 0 (MQ below (jm_Q G (some (.int rv)) Sf) args s 0 0 (jm_A G)) (F0 m 0 ls []) := by
  intro h0 x1 S H locs ls hf hJ hS hl
  unfold fX7_childCount at hf
  refine jw_aload_n C dX7_childCount_0 rfl (hl.at 0 rfl) ?_
  refine lv_iload_n C.1 C.2.1 dX7_childCount_1 rfl (hl.at 1 rfl) ?_
  obtain ⟨a1, o1, hf⟩ := jm_rd_ok hf
  obtain ⟨v1, S1, h1, hf⟩ := jm_bd_ok hf
  refine jw_cV (q := (RX7, TX7, 12)) C hJ hS o1 rfl (cX7_findServer_C l G a1 x1 h1) (cwV 1 C.2.2.2.2.1 gX7_childCount_X7_findServer rfl rfl rfl (by decide +kernel) ⟨Nat.le_of_ble_eq_true rfl, Nat.le_of_ble_eq_true rfl⟩) rfl hl.1 rfl (Nat.le_of_ble_eq_true rfl) dX7_childCount_2 ⟨Nat.le_refl _, Nat.le_refl _⟩ (fun H locs hJ hS => ?_)
  refine jw_astore_n C dX7_childCount_5 rfl hl (by decide) rfl (fun ls hl => ?_)
  refine jw_aload_n C dX7_childCount_6 rfl (hl.at 0 rfl) ?_
  refine jw_ifnonnull (tgt := 12) C dX7_childCount_7 (by decide) (fun hq2 => ?_) (fun hq2 => ?_)
  · replace hf := jm_iff hf hq2
    refine jw_aload_n C dX7_childCount_12 rfl (hl.at 1 rfl) ?_
    obtain ⟨v3, h3, hf⟩ := jm_rd_ok hf
    refine jw_gI (Cn := RX7) (T := TX7) (N := 12) C hJ h3 rfl inX7_childCount_X7 (by decide) (jm_w C 1 rfl) (fun _ h => h) dX7_childCount_13 ?_
    refine lv_if_eq (tgt := 36) C.1 C.2.1 dX7_childCount_16 (by decide) (fun hq4 => ?_) (fun hq4 => ?_)
    · replace hf := jm_ift hf hq4
      refine jw_aload_n C dX7_childCount_36 rfl (hl.at 0 rfl) ?_
      obtain ⟨v5, h5, hf⟩ := jm_rd_ok hf
      refine jw_gR (Cn := RX1) (T := TX1) (N := 7) C hJ h5 rfl inX7_childCount_X1 (by decide) (jm_w C 2 rfl) (fun _ h => h) dX7_childCount_37 ?_
      refine jw_aload_n C dX7_childCount_40 rfl (hl.at 1 rfl) ?_
      obtain ⟨v6, h6, hf⟩ := jm_rd_ok hf
      refine jw_gI (Cn := RX7) (T := TX7) (N := 12) C hJ h6 rfl inX7_childCount_X7 (by decide) (jm_w C 1 rfl) (fun _ h => h) dX7_childCount_41 ?_
      obtain ⟨a7, o7, hf⟩ := jm_rd_ok hf
      obtain ⟨v7, S7, h7, hf⟩ := jm_bd_ok hf
      refine jw_cV (q := (RX4, TX4, 2)) C hJ hS o7 rfl (cX4_countChildren_C l G a7 v6 h7) (cwV 1 C.2.2.2.2.1 gX7_childCount_X4_countChildren rfl rfl rfl (by decide +kernel) ⟨Nat.le_of_ble_eq_true rfl, Nat.le_of_ble_eq_true rfl⟩) rfl hl.1 rfl (Nat.le_of_ble_eq_true rfl) dX7_childCount_44 ⟨Nat.le_refl _, Nat.le_refl _⟩ (fun H locs hJ hS => ?_)
      obtain ⟨rfl, rfl⟩ := jm_ret_ok hf
      exact jw_ri C hJ hS (Nat.le_refl _) (Nat.le_refl _) dX7_childCount_47
    · replace hf := jm_iff hf hq4
      refine jw_aload_n C dX7_childCount_19 rfl (hl.at 0 rfl) ?_
      obtain ⟨v8, h8, hf⟩ := jm_rd_ok hf
      refine jw_gR (Cn := RX1) (T := TX1) (N := 7) C hJ h8 rfl inX7_childCount_X1 (by decide) (jm_w C 2 rfl) (fun _ h => h) dX7_childCount_20 ?_
      refine jw_aload_n C dX7_childCount_23 rfl (hl.at 1 rfl) ?_
      obtain ⟨v9, h9, hf⟩ := jm_rd_ok hf
      refine jw_gI (Cn := RX7) (T := TX7) (N := 12) C hJ h9 rfl inX7_childCount_X7 (by decide) (jm_w C 1 rfl) (fun _ h => h) dX7_childCount_24 ?_
      obtain ⟨a10, o10, hf⟩ := jm_rd_ok hf
      obtain ⟨v10, S10, h10, hf⟩ := jm_bd_ok hf
      refine jw_cV (q := (RX4, TX4, 2)) C hJ hS o10 rfl (cX4_find_C l G a10 v9 h10) (cwV 1 C.2.2.2.2.1 gX7_childCount_X4_find rfl rfl rfl (by decide +kernel) ⟨Nat.le_of_ble_eq_true rfl, Nat.le_of_ble_eq_true rfl⟩) rfl hl.1 rfl (Nat.le_of_ble_eq_true rfl) dX7_childCount_27 ⟨Nat.le_refl _, Nat.le_refl _⟩ (fun H locs hJ hS => ?_)
      refine jw_ifnonnull (tgt := 36) C dX7_childCount_30 (by decide) (fun hq11 => ?_) (fun hq11 => ?_)
      · replace hf := jm_iff hf hq11
        refine jw_aload_n C dX7_childCount_36 rfl (hl.at 0 rfl) ?_
        obtain ⟨v12, h12, hf⟩ := jm_rd_ok hf
        refine jw_gR (Cn := RX1) (T := TX1) (N := 7) C hJ h12 rfl inX7_childCount_X1 (by decide) (jm_w C 2 rfl) (fun _ h => h) dX7_childCount_37 ?_
        refine jw_aload_n C dX7_childCount_40 rfl (hl.at 1 rfl) ?_
        obtain ⟨v13, h13, hf⟩ := jm_rd_ok hf
        refine jw_gI (Cn := RX7) (T := TX7) (N := 12) C hJ h13 rfl inX7_childCount_X7 (by decide) (jm_w C 1 rfl) (fun _ h => h) dX7_childCount_41 ?_
        obtain ⟨a14, o14, hf⟩ := jm_rd_ok hf
        obtain ⟨v14, S14, h14, hf⟩ := jm_bd_ok hf
        refine jw_cV (q := (RX4, TX4, 2)) C hJ hS o14 rfl (cX4_countChildren_C l G a14 v13 h14) (cwV 1 C.2.2.2.2.1 gX7_childCount_X4_countChildren rfl rfl rfl (by decide +kernel) ⟨Nat.le_of_ble_eq_true rfl, Nat.le_of_ble_eq_true rfl⟩) rfl hl.1 rfl (Nat.le_of_ble_eq_true rfl) dX7_childCount_44 ⟨Nat.le_refl _, Nat.le_refl _⟩ (fun H locs hJ hS => ?_)
        obtain ⟨rfl, rfl⟩ := jm_ret_ok hf
        exact jw_ri C hJ hS (Nat.le_refl _) (Nat.le_refl _) dX7_childCount_47
      · replace hf := jm_ift hf hq11
        refine lv_bipush (v := (-3)) C.1 C.2.1 dX7_childCount_33 (by decide) ?_
        obtain ⟨rfl, rfl⟩ := jm_ret_ok hf
        exact jw_ri C hJ hS (Nat.le_refl _) (Nat.le_refl _) dX7_childCount_35
  · replace hf := jm_ift hf hq2
    refine lv_iconst (v := (-1)) C.1 C.2.1 dX7_childCount_10 (by decide) ?_
    obtain ⟨rfl, rfl⟩ := jm_ret_ok hf
    exact jw_ri C hJ hS (Nat.le_refl _) (Nat.le_refl _) dX7_childCount_11
set_option maxHeartbeats 4000000 in
set_option maxRecDepth 100000 in
theorem cX7_childCount_C (l : Launch) (G : jm_G) (h0 : Nat) (x1 : Int32) {S Sf : jm_S} {rv : Int32} (hf : fX7_childCount h0 x1 S = some (rv, Sf)) : Met l yX7_childCount wsX7_childCount ({ frames := 2, cells := 0, slots := 0, locals := 46 } : Room) (jm_Pc G S [.ref h0, .int x1]) (jm_Q G (some (.int rv)) Sf) 0 0 (jm_A G) := by
  refine Met.ofW (cc := cX7_childCount) (maxL := 3) (ret := (some .int)) (by decide) rfl ?_
  intro p e s m args below meth c s₁ B hml hv
  obtain ⟨rfl, hJ, hX⟩ := hv
  have C : jm_C G cX7_childCount 3 RX7 wsX7_childCount ((some .int)) p s m _ meth c := ⟨B.exec, B.bytes, hml, findClass_of_methodNamed B.named, atoms_spec (ws := wsX7_childCount) B.pre, B.returns, B.notSynchronized, hX⟩
  obtain ⟨ls, he, hl⟩ := jm_entry m [.inr (some h0), .inl x1] (n := 3) (Nat.le_of_ble_eq_true rfl)
  have he : entryFrame m ([.ref h0, .int x1] : List Value).toArray 3 = F0 m 0 ls [] := he
  rw [he]
  exact kX7_childCount C h0 x1 hf hJ va_S.rf (hl.sub [0, 1] rfl)
/-! CoordinationService.nodeCount -/
def fX7_nodeCount (h0 : Nat) (x1 : Int32) : jm_P Int32 := jm_rd (jm_o (some h0) 8) fun a1 => jm_bd (fX7_findServer a1 x1) fun v1 => (if v1 = none then jm_ret (-1) else jm_rd (jm_gR v1 2 1) fun v3 => jm_rd (jm_o v3 5) fun a4 => jm_bd (fX4_size a4) fun v4 => jm_ret v4)
theorem inX7_nodeCount_X1 : ∀ w ∈ wsX10, w ∈ wsX7_nodeCount := fun _ h => List.mem_cons_of_mem _ (List.mem_append_left _ (List.mem_append_left _ (List.mem_append_left _ (List.mem_append_right _ h))))
theorem moX7_nodeCount (h0 : Nat) (x1 : Int32) : jm_Mo (fX7_nodeCount h0 x1) := by
  unfold fX7_nodeCount
  exact jm_Mo_rd (fun _ => jm_Mo_bd (moX7_findServer _ _) (fun _ => jm_Mo_if (jm_Mo_ret _) (jm_Mo_rd (fun _ => jm_Mo_rd (fun _ => jm_Mo_bd (moX4_size _) (fun _ => jm_Mo_ret _))))))
set_option maxHeartbeats 4000000 in
set_option maxRecDepth 100000 in
theorem kX7_nodeCount {rv : Int32} {Sf : jm_S} (C : jm_C G cX7_nodeCount 3 RX7 wsX7_nodeCount ((some .int)) p s m args meth c) : ∀ (h0 : Nat) (x1 : Int32) {S : jm_S} {H : Heap} {locs : List Loc} {ls : Array Slot}, fX7_nodeCount h0 x1 S = some (rv, Sf) → jm_J G S H → va_S (jm_A G) s.heap H locs → jm_L ls 3 [(0, .inr (some h0)), (1, .inl x1)] → W p l e ({ frames := 1, cells := 0, slots := 0, locals := 25 } : Room) s m args below meth c H locs 0 0 (MQ below (jm_Q G (some (.int rv)) Sf) args s 0 0 (jm_A G)) (F0 m 0 ls []) := by
  intro h0 x1 S H locs ls hf hJ hS hl
  unfold fX7_nodeCount at hf
  refine jw_aload_n C dX7_nodeCount_0 rfl (hl.at 0 rfl) ?_
  refine lv_iload_n C.1 C.2.1 dX7_nodeCount_1 rfl (hl.at 1 rfl) ?_
  obtain ⟨a1, o1, hf⟩ := jm_rd_ok hf
  obtain ⟨v1, S1, h1, hf⟩ := jm_bd_ok hf
  refine jw_cV (q := (RX7, TX7, 12)) C hJ hS o1 rfl (cX7_findServer_C l G a1 x1 h1) (cwV 1 C.2.2.2.2.1 gX7_nodeCount_X7_findServer rfl rfl rfl (by decide +kernel) ⟨Nat.le_of_ble_eq_true rfl, Nat.le_of_ble_eq_true rfl⟩) rfl hl.1 rfl (Nat.le_of_ble_eq_true rfl) dX7_nodeCount_2 ⟨Nat.le_refl _, Nat.le_refl _⟩ (fun H locs hJ hS => ?_)
  refine jw_astore_n C dX7_nodeCount_5 rfl hl (by decide) rfl (fun ls hl => ?_)
  refine jw_aload_n C dX7_nodeCount_6 rfl (hl.at 0 rfl) ?_
  refine jw_ifnonnull (tgt := 14) C dX7_nodeCount_7 (by decide) (fun hq2 => ?_) (fun hq2 => ?_)
  · replace hf := jm_iff hf hq2
    refine jw_aload_n C dX7_nodeCount_14 rfl (hl.at 0 rfl) ?_
    obtain ⟨v3, h3, hf⟩ := jm_rd_ok hf
    refine jw_gR (Cn := RX1) (T := TX1) (N := 7) C hJ h3 rfl inX7_nodeCount_X1 (by decide) (jm_w C 1 rfl) (fun _ h => h) dX7_nodeCount_15 ?_
    obtain ⟨a4, o4, hf⟩ := jm_rd_ok hf
    obtain ⟨v4, S4, h4, hf⟩ := jm_bd_ok hf
    refine jw_cV (q := (RX4, TX4, 2)) C hJ hS o4 rfl (cX4_size_C l G a4 h4) (cwV 0 C.2.2.2.2.1 gX7_nodeCount_X4_size rfl rfl rfl (by decide +kernel) ⟨Nat.le_of_ble_eq_true rfl, Nat.le_of_ble_eq_true rfl⟩) rfl hl.1 rfl (Nat.le_of_ble_eq_true rfl) dX7_nodeCount_18 ⟨Nat.le_refl _, Nat.le_refl _⟩ (fun H locs hJ hS => ?_)
    obtain ⟨rfl, rfl⟩ := jm_ret_ok hf
    exact jw_ri C hJ hS (Nat.le_refl _) (Nat.le_refl _) dX7_nodeCount_21
  · replace hf := jm_ift hf hq2
    refine lv_iconst (v := (-1)) C.1 C.2.1 dX7_nodeCount_10 (by decide) ?_
    refine lv_goto (tgt := 21) C.1 C.2.1 dX7_nodeCount_11 (by decide) ?_
    obtain ⟨rfl, rfl⟩ := jm_ret_ok hf
    exact jw_ri C hJ hS (Nat.le_refl _) (Nat.le_refl _) dX7_nodeCount_21
set_option maxHeartbeats 4000000 in
set_option maxRecDepth 100000 in
theorem cX7_nodeCount_C (l : Launch) (G : jm_G) (h0 : Nat) (x1 : Int32) {S Sf : jm_S} {rv : Int32} (hf : fX7_nodeCount h0 x1 S = some (rv, Sf)) : Met l yX7_nodeCount wsX7_nodeCount ({ frames := 1, cells := 0, slots := 0, locals := 25 } : Room) (jm_Pc G S [.ref h0, .int x1]) (jm_Q G (some (.int rv)) Sf) 0 0 (jm_A G) := by
  refine Met.ofW (cc := cX7_nodeCount) (maxL := 3) (ret := (some .int)) (by decide) rfl ?_
  intro p e s m args below meth c s₁ B hml hv
  obtain ⟨rfl, hJ, hX⟩ := hv
  have C : jm_C G cX7_nodeCount 3 RX7 wsX7_nodeCount ((some .int)) p s m _ meth c := ⟨B.exec, B.bytes, hml, findClass_of_methodNamed B.named, atoms_spec (ws := wsX7_nodeCount) B.pre, B.returns, B.notSynchronized, hX⟩
  obtain ⟨ls, he, hl⟩ := jm_entry m [.inr (some h0), .inl x1] (n := 3) (Nat.le_of_ble_eq_true rfl)
  have he : entryFrame m ([.ref h0, .int x1] : List Value).toArray 3 = F0 m 0 ls [] := he
  rw [he]
  exact kX7_nodeCount C h0 x1 hf hJ va_S.rf (hl.sub [0, 1] rfl)
/-! CoordinationService.commonLog -/
def fX7_commonLog (h0 : Nat) (x1 : Int32) (x2 : Int32) : jm_P Int32 := jm_rd (jm_o (some h0) 8) fun a1 => jm_bd (fX7_findServer a1 x1) fun v1 => jm_rd (jm_o (some h0) 8) fun a2 => jm_bd (fX7_findServer a2 x2) fun v2 => (if v1 = none then jm_ret (-1) else (if v2 = none then jm_ret (-1) else jm_rd (jm_o v1 2) fun a5 => jm_bd (fX1_commonLength a5 v2) fun v5 => jm_ret v5))
theorem moX7_commonLog (h0 : Nat) (x1 : Int32) (x2 : Int32) : jm_Mo (fX7_commonLog h0 x1 x2) := by
  unfold fX7_commonLog
  exact jm_Mo_rd (fun _ => jm_Mo_bd (moX7_findServer _ _) (fun _ => jm_Mo_rd (fun _ => jm_Mo_bd (moX7_findServer _ _) (fun _ => jm_Mo_if (jm_Mo_ret _) (jm_Mo_if (jm_Mo_ret _) (jm_Mo_rd (fun _ => jm_Mo_bd (moX1_commonLength _ _) (fun _ => jm_Mo_ret _))))))))
set_option maxHeartbeats 4000000 in
set_option maxRecDepth 100000 in
theorem kX7_commonLog {rv : Int32} {Sf : jm_S} (C : jm_C G cX7_commonLog 5 RX7 wsX7_commonLog ((some .int)) p s m args meth c) : ∀ (h0 : Nat) (x1 : Int32) (x2 : Int32) {S : jm_S} {H : Heap} {locs : List Loc} {ls : Array Slot}, fX7_commonLog h0 x1 x2 S = some (rv, Sf) → jm_J G S H → va_S (jm_A G) s.heap H locs → jm_L ls 5 [(0, .inr (some h0)), (1, .inl x1), (2, .inl x2)] → W p l e ({ frames := 4, cells := 0, slots := 0, locals := 87 } : Room) s m args below meth c H locs 0 0 (MQ below (jm_Q G (some (.int rv)) Sf) args s 0 0 (jm_A G)) (F0 m 0 ls []) := by
  intro h0 x1 x2 S H locs ls hf hJ hS hl
  unfold fX7_commonLog at hf
  refine jw_aload_n C dX7_commonLog_0 rfl (hl.at 0 rfl) ?_
  refine lv_iload_n C.1 C.2.1 dX7_commonLog_1 rfl (hl.at 1 rfl) ?_
  obtain ⟨a1, o1, hf⟩ := jm_rd_ok hf
  obtain ⟨v1, S1, h1, hf⟩ := jm_bd_ok hf
  refine jw_cV (q := (RX7, TX7, 12)) C hJ hS o1 rfl (cX7_findServer_C l G a1 x1 h1) (cwV 1 C.2.2.2.2.1 gX7_commonLog_X7_findServer rfl rfl rfl (by decide +kernel) ⟨Nat.le_of_ble_eq_true rfl, Nat.le_of_ble_eq_true rfl⟩) rfl hl.1 rfl (Nat.le_of_ble_eq_true rfl) dX7_commonLog_2 ⟨Nat.le_refl _, Nat.le_refl _⟩ (fun H locs hJ hS => ?_)
  refine jw_astore_n C dX7_commonLog_5 rfl hl (by decide) rfl (fun ls hl => ?_)
  refine jw_aload_n C dX7_commonLog_6 rfl (hl.at 1 rfl) ?_
  refine lv_iload_n C.1 C.2.1 dX7_commonLog_7 rfl (hl.at 3 rfl) ?_
  obtain ⟨a2, o2, hf⟩ := jm_rd_ok hf
  obtain ⟨v2, S2, h2, hf⟩ := jm_bd_ok hf
  refine jw_cV (q := (RX7, TX7, 12)) C hJ hS o2 rfl (cX7_findServer_C l G a2 x2 h2) (cwV 1 C.2.2.2.2.1 gX7_commonLog_X7_findServer rfl rfl rfl (by decide +kernel) ⟨Nat.le_of_ble_eq_true rfl, Nat.le_of_ble_eq_true rfl⟩) rfl hl.1 rfl (Nat.le_of_ble_eq_true rfl) dX7_commonLog_8 ⟨Nat.le_refl _, Nat.le_refl _⟩ (fun H locs hJ hS => ?_)
  refine jw_astore C dX7_commonLog_11 hl (by decide) rfl (fun ls hl => ?_)
  refine jw_aload_n C dX7_commonLog_13 rfl (hl.at 1 rfl) ?_
  refine jw_ifnull (tgt := 22) C dX7_commonLog_14 (by decide) (fun hq3 => ?_) (fun hq3 => ?_)
  · replace hf := jm_ift hf hq3
    refine lv_iconst (v := (-1)) C.1 C.2.1 dX7_commonLog_22 (by decide) ?_
    refine lv_goto (tgt := 32) C.1 C.2.1 dX7_commonLog_23 (by decide) ?_
    obtain ⟨rfl, rfl⟩ := jm_ret_ok hf
    exact jw_ri C hJ hS (Nat.le_refl _) (Nat.le_refl _) dX7_commonLog_32
  · replace hf := jm_iff hf hq3
    refine jw_aload C dX7_commonLog_17 (hl.at 0 rfl) ?_
    refine jw_ifnonnull (tgt := 26) C dX7_commonLog_19 (by decide) (fun hq4 => ?_) (fun hq4 => ?_)
    · replace hf := jm_iff hf hq4
      refine jw_aload_n C dX7_commonLog_26 rfl (hl.at 1 rfl) ?_
      refine jw_aload C dX7_commonLog_27 (hl.at 0 rfl) ?_
      obtain ⟨a5, o5, hf⟩ := jm_rd_ok hf
      obtain ⟨v5, S5, h5, hf⟩ := jm_bd_ok hf
      refine jw_cV (q := (RX1, TX1, 7)) C hJ hS o5 rfl (cX1_commonLength_C l G a5 v2 h5) (cwV 1 C.2.2.2.2.1 gX7_commonLog_X1_commonLength rfl rfl rfl (by decide +kernel) ⟨Nat.le_of_ble_eq_true rfl, Nat.le_of_ble_eq_true rfl⟩) rfl hl.1 rfl (Nat.le_of_ble_eq_true rfl) dX7_commonLog_29 ⟨Nat.le_refl _, Nat.le_refl _⟩ (fun H locs hJ hS => ?_)
      obtain ⟨rfl, rfl⟩ := jm_ret_ok hf
      exact jw_ri C hJ hS (Nat.le_refl _) (Nat.le_refl _) dX7_commonLog_32
    · replace hf := jm_ift hf hq4
      refine lv_iconst (v := (-1)) C.1 C.2.1 dX7_commonLog_22 (by decide) ?_
      refine lv_goto (tgt := 32) C.1 C.2.1 dX7_commonLog_23 (by decide) ?_
      obtain ⟨rfl, rfl⟩ := jm_ret_ok hf
      exact jw_ri C hJ hS (Nat.le_refl _) (Nat.le_refl _) dX7_commonLog_32
set_option maxHeartbeats 4000000 in
set_option maxRecDepth 100000 in
theorem cX7_commonLog_C (l : Launch) (G : jm_G) (h0 : Nat) (x1 : Int32) (x2 : Int32) {S Sf : jm_S} {rv : Int32} (hf : fX7_commonLog h0 x1 x2 S = some (rv, Sf)) : Met l yX7_commonLog wsX7_commonLog ({ frames := 4, cells := 0, slots := 0, locals := 87 } : Room) (jm_Pc G S [.ref h0, .int x1, .int x2]) (jm_Q G (some (.int rv)) Sf) 0 0 (jm_A G) := by
  refine Met.ofW (cc := cX7_commonLog) (maxL := 5) (ret := (some .int)) (by decide) rfl ?_
  intro p e s m args below meth c s₁ B hml hv
  obtain ⟨rfl, hJ, hX⟩ := hv
  have C : jm_C G cX7_commonLog 5 RX7 wsX7_commonLog ((some .int)) p s m _ meth c := ⟨B.exec, B.bytes, hml, findClass_of_methodNamed B.named, atoms_spec (ws := wsX7_commonLog) B.pre, B.returns, B.notSynchronized, hX⟩
  obtain ⟨ls, he, hl⟩ := jm_entry m [.inr (some h0), .inl x1, .inl x2] (n := 5) (Nat.le_of_ble_eq_true rfl)
  have he : entryFrame m ([.ref h0, .int x1, .int x2] : List Value).toArray 5 = F0 m 0 ls [] := he
  rw [he]
  exact kX7_commonLog C h0 x1 x2 hf hJ va_S.rf (hl.sub [0, 1, 2] rfl)
end JG
