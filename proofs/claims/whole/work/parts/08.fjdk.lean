section JG
variable {p : Program} {l : Launch} {e : Env} {s : State} {m : MethodId} {args : Array Value} {below : List Frame} {meth : Method} {c : Code} {G : jm_G}
/-! java/util/AbstractCollection.<init> -/
def fJxa1e45_init_da8c8 (h0 : Nat) : jm_P Unit := jm_rd (jm_nn (some h0)) fun _ => jm_ret ()
theorem moJxa1e45_init_da8c8 (h0 : Nat) : jm_Mo (fJxa1e45_init_da8c8 h0) := by
  unfold fJxa1e45_init_da8c8
  exact jm_Mo_rd (fun _ => jm_Mo_ret _)
set_option maxHeartbeats 4000000 in
set_option maxRecDepth 100000 in
theorem kJxa1e45_init_da8c8 {rv : Unit} {Sf : jm_S} (C : jm_C G cJxa1e45_init_da8c8 1 RJxa1e45 wsJxa1e45_init_da8c8 (none) p s m args meth c) (hi : meth.name = "<init>") : ∀ (h0 : Nat) {S : jm_S} {H : Heap} {locs : List Loc} {ls : Array Slot}, fJxa1e45_init_da8c8 h0 S = some (rv, Sf) → jm_J G S H → va_S (jm_A G) s.heap H locs → jm_L ls 1 [(0, .inr (some h0))] → W p l e ({ frames := 1, cells := 0, slots := 0, locals := 20 } : Room) s m args below meth c H locs 0 0 (MQ below (jm_Q G (none) Sf) args s 0 0 (jm_A G)) (F0 m 0 ls []) := by
  intro h0 S H locs ls hf hJ hS hl
  unfold fJxa1e45_init_da8c8 at hf
  refine jw_aload_n C dJxa1e45_init_da8c8_0 rfl (hl.at 0 rfl) ?_
  obtain ⟨u1, h1, hf⟩ := jm_rd_ok hf
  refine jw_objInit C h1 hl.1 (jm_w C 1 rfl) (jm_w C 2 rfl) (jm_w C 3 rfl) dJxa1e45_init_da8c8_1 (Nat.le_of_ble_eq_true rfl) (Nat.le_of_ble_eq_true rfl) (Nat.le_of_ble_eq_true rfl) ?_
  obtain ⟨rfl, rfl⟩ := jm_ret_ok hf
  exact jw_rv C hJ hS (Nat.le_refl _) (Nat.le_refl _) dJxa1e45_init_da8c8_4
set_option maxHeartbeats 4000000 in
set_option maxRecDepth 100000 in
theorem cJxa1e45_init_da8c8_C (l : Launch) (G : jm_G) (h0 : Nat) {S Sf : jm_S} {rv : Unit} (hf : fJxa1e45_init_da8c8 h0 S = some (rv, Sf)) : Met l yJxa1e45_init_da8c8 wsJxa1e45_init_da8c8 ({ frames := 1, cells := 0, slots := 0, locals := 20 } : Room) (jm_Pc G S [.ref h0]) (jm_Q G (none) Sf) 0 0 (jm_A G) := by
  refine va_MetF (cc := cJxa1e45_init_da8c8) (maxL := 1) (ret := none) (by decide +kernel) rfl ?_
  intro p e s m args below meth c s₁ B hml hv
  obtain ⟨rfl, hJ, hX⟩ := hv
  have C : jm_C G cJxa1e45_init_da8c8 1 RJxa1e45 wsJxa1e45_init_da8c8 (none) p s m _ meth c := ⟨B.exec, B.bytes, hml, findClass_of_methodNamed B.named, atoms_spec (ws := wsJxa1e45_init_da8c8) B.pre, B.returns, B.notSynchronized, hX⟩
  have hi : meth.name = "<init>" := (name_of_methodNamed B.named B.method).1
  obtain ⟨ls, he, hl⟩ := jm_entry m [.inr (some h0)] (n := 1) (Nat.le_of_ble_eq_true rfl)
  have he : entryFrame m ([.ref h0] : List Value).toArray 1 = F0 m 0 ls [] := he
  rw [he]
  exact kJxa1e45_init_da8c8 C hi h0 hf hJ va_S.rf (hl.sub [0] rfl)
/-! java/util/AbstractList.<init> -/
def fJxc12de_init_da8c8 (h0 : Nat) : jm_P Unit := jm_bd (fJxa1e45_init_da8c8 h0) fun _ => jm_wr (jm_p (some h0) 0 0 (.inl 0)) <| jm_ret ()
theorem inJxc12de_init_da8c8_Jx4a65c : ∀ w ∈ wsJx4a65c0, w ∈ wsJxc12de_init_da8c8 := fun _ h => List.mem_cons_of_mem _ (List.mem_append_right _ h)
theorem moJxc12de_init_da8c8 (h0 : Nat) : jm_Mo (fJxc12de_init_da8c8 h0) := by
  unfold fJxc12de_init_da8c8
  exact jm_Mo_bd (moJxa1e45_init_da8c8 _) (fun _ => jm_Mo_wr jm_p_st (jm_Mo_ret _))
set_option maxHeartbeats 4000000 in
set_option maxRecDepth 100000 in
theorem kJxc12de_init_da8c8 {rv : Unit} {Sf : jm_S} (C : jm_C G cJxc12de_init_da8c8 1 RJxc12de wsJxc12de_init_da8c8 (none) p s m args meth c) (hi : meth.name = "<init>") : ∀ (h0 : Nat) {S : jm_S} {H : Heap} {locs : List Loc} {ls : Array Slot}, fJxc12de_init_da8c8 h0 S = some (rv, Sf) → jm_J G S H → va_S (jm_A G) s.heap H locs → jm_L ls 1 [(0, .inr (some h0))] → W p l e ({ frames := 2, cells := 0, slots := 0, locals := 40 } : Room) s m args below meth c H locs 0 0 (MQ below (jm_Q G (none) Sf) args s 0 0 (jm_A G)) (F0 m 0 ls []) := by
  intro h0 S H locs ls hf hJ hS hl
  unfold fJxc12de_init_da8c8 at hf
  refine jw_aload_n C dJxc12de_init_da8c8_0 rfl (hl.at 0 rfl) ?_
  obtain ⟨v1, S1, h1, hf⟩ := jm_bd_ok hf
  refine jw_cI C hJ hS (cJxa1e45_init_da8c8_C l G h0 h1) (cwI 0 C.2.2.2.2.1 gJxc12de_init_da8c8_Jxa1e45_init_da8c8 rfl rfl rfl (jm_w C 4 rfl) (jm_w C 2 rfl) (jm_w C 3 rfl) rfl (by decide +kernel) ⟨Nat.le_of_ble_eq_true rfl, Nat.le_of_ble_eq_true rfl⟩) rfl hl.1 rfl (Nat.le_of_ble_eq_true rfl) dJxc12de_init_da8c8_1 ⟨Nat.le_refl _, Nat.le_refl _⟩ (fun H locs hJ hS => ?_)
  refine jw_aload_n C dJxc12de_init_da8c8_4 rfl (hl.at 0 rfl) ?_
  refine lv_iconst (v := 0) C.1 C.2.1 dJxc12de_init_da8c8_5 (by decide) ?_
  obtain ⟨S2, h2, hf⟩ := jm_wr_ok hf
  refine jw_p (x := .inl 0) (ty := .int) (Cn := RJx4a65c) (T := TJx4a65c) (N := 3) C hJ hS h2 rfl inJxc12de_init_da8c8_Jx4a65c tyJx4a65c tyJx4a65c_ok nmJx4a65c (by decide) (jm_w C 1 rfl) (fun _ h => h) rfl (by decide +kernel) rfl rfl dJxc12de_init_da8c8_6 (fun H locs hJ hS => ?_)
  obtain ⟨rfl, rfl⟩ := jm_ret_ok hf
  exact jw_rv C hJ hS (Nat.le_refl _) (Nat.le_refl _) dJxc12de_init_da8c8_9
set_option maxHeartbeats 4000000 in
set_option maxRecDepth 100000 in
theorem cJxc12de_init_da8c8_C (l : Launch) (G : jm_G) (h0 : Nat) {S Sf : jm_S} {rv : Unit} (hf : fJxc12de_init_da8c8 h0 S = some (rv, Sf)) : Met l yJxc12de_init_da8c8 wsJxc12de_init_da8c8 ({ frames := 2, cells := 0, slots := 0, locals := 40 } : Room) (jm_Pc G S [.ref h0]) (jm_Q G (none) Sf) 0 0 (jm_A G) := by
  refine va_MetF (cc := cJxc12de_init_da8c8) (maxL := 1) (ret := none) (by decide +kernel) rfl ?_
  intro p e s m args below meth c s₁ B hml hv
  obtain ⟨rfl, hJ, hX⟩ := hv
  have C : jm_C G cJxc12de_init_da8c8 1 RJxc12de wsJxc12de_init_da8c8 (none) p s m _ meth c := ⟨B.exec, B.bytes, hml, findClass_of_methodNamed B.named, atoms_spec (ws := wsJxc12de_init_da8c8) B.pre, B.returns, B.notSynchronized, hX⟩
  have hi : meth.name = "<init>" := (name_of_methodNamed B.named B.method).1
  obtain ⟨ls, he, hl⟩ := jm_entry m [.inr (some h0)] (n := 1) (Nat.le_of_ble_eq_true rfl)
  have he : entryFrame m ([.ref h0] : List Value).toArray 1 = F0 m 0 ls [] := he
  rw [he]
  exact kJxc12de_init_da8c8 C hi h0 hf hJ va_S.rf (hl.sub [0] rfl)
/-! java/util/ArrayList.<init> -/
def fJx4a65c_init_da8c8 (h0 : Nat) : jm_P Unit := jm_bd (fJxc12de_init_da8c8 h0) fun _ => jm_rd jm_t0 fun v2 => jm_wr (jm_p (some h0) 0 1 (.inr v2)) <| jm_ret ()
theorem inJx4a65c_init_da8c8_Jx4a65c : ∀ w ∈ wsJx4a65c0, w ∈ wsJx4a65c_init_da8c8 := fun _ h => List.mem_cons_of_mem _ (List.mem_append_right _ h)
theorem moJx4a65c_init_da8c8 (h0 : Nat) : jm_Mo (fJx4a65c_init_da8c8 h0) := by
  unfold fJx4a65c_init_da8c8
  exact jm_Mo_bd (moJxc12de_init_da8c8 _) (fun _ => jm_Mo_rd (fun _ => jm_Mo_wr jm_p_st (jm_Mo_ret _)))
set_option maxHeartbeats 4000000 in
set_option maxRecDepth 100000 in
theorem kJx4a65c_init_da8c8 {rv : Unit} {Sf : jm_S} (C : jm_C G cJx4a65c_init_da8c8 1 RJx4a65c wsJx4a65c_init_da8c8 (none) p s m args meth c) (hi : meth.name = "<init>") : ∀ (h0 : Nat) {S : jm_S} {H : Heap} {locs : List Loc} {ls : Array Slot}, fJx4a65c_init_da8c8 h0 S = some (rv, Sf) → jm_J G S H → va_S (jm_A G) s.heap H locs → jm_L ls 1 [(0, .inr (some h0))] → W p l e ({ frames := 3, cells := 0, slots := 0, locals := 60 } : Room) s m args below meth c H locs 0 0 (MQ below (jm_Q G (none) Sf) args s 0 0 (jm_A G)) (F0 m 0 ls []) := by
  intro h0 S H locs ls hf hJ hS hl
  unfold fJx4a65c_init_da8c8 at hf
  refine jw_aload_n C dJx4a65c_init_da8c8_0 rfl (hl.at 0 rfl) ?_
  obtain ⟨v1, S1, h1, hf⟩ := jm_bd_ok hf
  refine jw_cI C hJ hS (cJxc12de_init_da8c8_C l G h0 h1) (cwI 0 C.2.2.2.2.1 gJx4a65c_init_da8c8_Jxc12de_init_da8c8 rfl rfl rfl (jm_w C 5 rfl) (jm_w C 3 rfl) (jm_w C 4 rfl) rfl (by decide +kernel) ⟨Nat.le_of_ble_eq_true rfl, Nat.le_of_ble_eq_true rfl⟩) rfl hl.1 rfl (Nat.le_of_ble_eq_true rfl) dJx4a65c_init_da8c8_1 ⟨Nat.le_refl _, Nat.le_refl _⟩ (fun H locs hJ hS => ?_)
  refine jw_aload_n C dJx4a65c_init_da8c8_4 rfl (hl.at 0 rfl) ?_
  obtain ⟨v2, h2, hf⟩ := jm_rd_ok hf
  refine jw_t0 C hJ hS h2 (jm_w C 1 rfl) dJx4a65c_init_da8c8_5 ?_
  obtain ⟨S3, h3, hf⟩ := jm_wr_ok hf
  refine jw_p (x := .inr v2) (ty := (.array (.object "java/lang/Object"))) (Cn := RJx4a65c) (T := TJx4a65c) (N := 3) C hJ hS h3 rfl inJx4a65c_init_da8c8_Jx4a65c tyJx4a65c tyJx4a65c_ok nmJx4a65c (by decide) (jm_w C 2 rfl) (fun _ h => h) rfl (by decide +kernel) (jm_nra _ v2).1 (jm_nra _ v2).2 dJx4a65c_init_da8c8_8 (fun H locs hJ hS => ?_)
  obtain ⟨rfl, rfl⟩ := jm_ret_ok hf
  exact jw_rv C hJ hS (Nat.le_refl _) (Nat.le_refl _) dJx4a65c_init_da8c8_11
set_option maxHeartbeats 4000000 in
set_option maxRecDepth 100000 in
theorem cJx4a65c_init_da8c8_C (l : Launch) (G : jm_G) (h0 : Nat) {S Sf : jm_S} {rv : Unit} (hf : fJx4a65c_init_da8c8 h0 S = some (rv, Sf)) : Met l yJx4a65c_init_da8c8 wsJx4a65c_init_da8c8 ({ frames := 3, cells := 0, slots := 0, locals := 60 } : Room) (jm_Pc G S [.ref h0]) (jm_Q G (none) Sf) 0 0 (jm_A G) := by
  refine va_MetF (cc := cJx4a65c_init_da8c8) (maxL := 1) (ret := none) (by decide +kernel) rfl ?_
  intro p e s m args below meth c s₁ B hml hv
  obtain ⟨rfl, hJ, hX⟩ := hv
  have C : jm_C G cJx4a65c_init_da8c8 1 RJx4a65c wsJx4a65c_init_da8c8 (none) p s m _ meth c := ⟨B.exec, B.bytes, hml, findClass_of_methodNamed B.named, atoms_spec (ws := wsJx4a65c_init_da8c8) B.pre, B.returns, B.notSynchronized, hX⟩
  have hi : meth.name = "<init>" := (name_of_methodNamed B.named B.method).1
  obtain ⟨ls, he, hl⟩ := jm_entry m [.inr (some h0)] (n := 1) (Nat.le_of_ble_eq_true rfl)
  have he : entryFrame m ([.ref h0] : List Value).toArray 1 = F0 m 0 ls [] := he
  rw [he]
  exact kJx4a65c_init_da8c8 C hi h0 hf hJ va_S.rf (hl.sub [0] rfl)
/-! java/util/ArrayList.clear -/
def fJx4a65c_clear_da8c8_27 : Nat → Option Nat → Int32 → Int32 → jm_P Unit
  | 0, _, _, _ => jm_no
  | n + 1, x1, x2, x3 => (if x2 ≤ x3 then jm_ret () else jm_wr (jm_sq x1 5 x3 none) <| fJx4a65c_clear_da8c8_27 n x1 x2 (x3 + 1))
def fJx4a65c_clear_da8c8 (h0 : Nat) : jm_P Unit := jm_rd (jm_gI (some h0) 0 0) fun v1 => jm_wr (jm_p (some h0) 0 0 (.inl (v1 + 1))) <| jm_rd (jm_gR (some h0) 0 1) fun v3 => jm_rd (jm_gI (some h0) 0 2) fun v4 => jm_wr (jm_p (some h0) 0 2 (.inl 0)) <| fJx4a65c_clear_da8c8_27 4096 v3 v4 0
theorem inJx4a65c_clear_da8c8_Jx4a65c : ∀ w ∈ wsJx4a65c0, w ∈ wsJx4a65c_clear_da8c8 := fun _ h => List.mem_cons_of_mem _ (List.mem_append_right _ h)
theorem moJx4a65c_clear_da8c8_27 : ∀ (n : Nat) (x1 : Option Nat) (x2 : Int32) (x3 : Int32), jm_Mo (fJx4a65c_clear_da8c8_27 n x1 x2 x3) := by
  intro n
  induction n with
  | zero =>
    intro x1 x2 x3
    rw [fJx4a65c_clear_da8c8_27]
    exact jm_Mo_no
  | succ n ih =>
    intro x1 x2 x3
    rw [fJx4a65c_clear_da8c8_27]
    exact jm_Mo_if (jm_Mo_ret _) (jm_Mo_wr jm_sq_st (ih _ _ _))
set_option maxHeartbeats 4000000 in
set_option maxRecDepth 100000 in
theorem kJx4a65c_clear_da8c8_27 {rv : Unit} {Sf : jm_S} (C : jm_C G cJx4a65c_clear_da8c8 4 RJx4a65c wsJx4a65c_clear_da8c8 (none) p s m args meth c) : ∀ (n : Nat) (x1 : Option Nat) (x2 : Int32) (x3 : Int32) {S : jm_S} {H : Heap} {locs : List Loc} {ls : Array Slot}, fJx4a65c_clear_da8c8_27 n x1 x2 x3 S = some (rv, Sf) → jm_J G S H → va_S (jm_A G) s.heap H locs → jm_L ls 4 [(1, .inr x1), (2, .inl x2), (3, .inl x3)] → W p l e ({ frames := 0, cells := 0, slots := 0, locals := 0 } : Room) s m args below meth c H locs 0 0 (MQ below (jm_Q G (none) Sf) args s 0 0 (jm_A G)) (F0 m 27 ls []) := by
  intro n
  induction n with
  | zero =>
    intro x1 x2 x3 S H locs ls hf
    rw [fJx4a65c_clear_da8c8_27] at hf
    exact absurd hf (fun h => jm_no_ok h)
  | succ n ih =>
    intro x1 x2 x3 S H locs ls hf hJ hS hl
    rw [fJx4a65c_clear_da8c8_27] at hf
    refine lv_iload_n C.1 C.2.1 dJx4a65c_clear_da8c8_27 rfl (hl.at 2 rfl) ?_
    refine lv_iload_n C.1 C.2.1 dJx4a65c_clear_da8c8_28 rfl (hl.at 1 rfl) ?_
    refine lv_icmp_ge (tgt := 42) C.1 C.2.1 dJx4a65c_clear_da8c8_29 (by decide) (fun hq6 => ?_) (fun hq6 => ?_)
    · replace hf := jm_ift hf hq6
      obtain ⟨rfl, rfl⟩ := jm_ret_ok hf
      exact jw_rv C hJ hS (Nat.le_refl _) (Nat.le_refl _) dJx4a65c_clear_da8c8_42
    · replace hf := jm_iff hf hq6
      refine jw_aload_n C dJx4a65c_clear_da8c8_32 rfl (hl.at 0 rfl) ?_
      refine lv_iload_n C.1 C.2.1 dJx4a65c_clear_da8c8_33 rfl (hl.at 2 rfl) ?_
      refine lv_null C.1 C.2.1 dJx4a65c_clear_da8c8_34 ?_
      show W _ _ _ _ _ _ _ _ _ _ _ _ _ _ _ (F0 _ _ _ (va_rf none :: _))
      obtain ⟨S7, h7, hf⟩ := jm_wr_ok hf
      refine jw_aastore C hJ hS h7 (by decide) rfl dJx4a65c_clear_da8c8_35 (fun H locs hJ hS => ?_)
      refine jw_iinc (v := x3 + 1) C 2 dJx4a65c_clear_da8c8_36 hl rfl (by rfl) (by decide) rfl (fun ls hl => ?_)
      refine lv_goto (tgt := 27) C.1 C.2.1 dJx4a65c_clear_da8c8_39 (by decide) ?_
      exact ih x1 x2 (x3 + 1) hf hJ hS (hl.sub [1, 2, 0] rfl)
theorem moJx4a65c_clear_da8c8 (h0 : Nat) : jm_Mo (fJx4a65c_clear_da8c8 h0) := by
  unfold fJx4a65c_clear_da8c8
  exact jm_Mo_rd (fun _ => jm_Mo_wr jm_p_st (jm_Mo_rd (fun _ => jm_Mo_rd (fun _ => jm_Mo_wr jm_p_st (moJx4a65c_clear_da8c8_27 _ _ _ _)))))
set_option maxHeartbeats 4000000 in
set_option maxRecDepth 100000 in
theorem kJx4a65c_clear_da8c8 {rv : Unit} {Sf : jm_S} (C : jm_C G cJx4a65c_clear_da8c8 4 RJx4a65c wsJx4a65c_clear_da8c8 (none) p s m args meth c) : ∀ (h0 : Nat) {S : jm_S} {H : Heap} {locs : List Loc} {ls : Array Slot}, fJx4a65c_clear_da8c8 h0 S = some (rv, Sf) → jm_J G S H → va_S (jm_A G) s.heap H locs → jm_L ls 4 [(0, .inr (some h0))] → W p l e ({ frames := 0, cells := 0, slots := 0, locals := 0 } : Room) s m args below meth c H locs 0 0 (MQ below (jm_Q G (none) Sf) args s 0 0 (jm_A G)) (F0 m 0 ls []) := by
  intro h0 S H locs ls hf hJ hS hl
  unfold fJx4a65c_clear_da8c8 at hf
  refine jw_aload_n C dJx4a65c_clear_da8c8_0 rfl (hl.at 0 rfl) ?_
  refine lv_dup C.1 C.2.1 dJx4a65c_clear_da8c8_1 (jm_catr _) ?_
  obtain ⟨v1, h1, hf⟩ := jm_rd_ok hf
  refine jw_gI (Cn := RJx4a65c) (T := TJx4a65c) (N := 3) C hJ h1 rfl inJx4a65c_clear_da8c8_Jx4a65c (by decide) (jm_w C 1 rfl) (u_same (jm_w C 2 rfl)) dJx4a65c_clear_da8c8_2 ?_
  refine lv_iconst (v := 1) C.1 C.2.1 dJx4a65c_clear_da8c8_5 (by decide) ?_
  refine lv_iadd C.1 C.2.1 dJx4a65c_clear_da8c8_6 ?_
  obtain ⟨S2, h2, hf⟩ := jm_wr_ok hf
  refine jw_p (x := .inl (v1 + 1)) (ty := .int) (Cn := RJx4a65c) (T := TJx4a65c) (N := 3) C hJ hS h2 rfl inJx4a65c_clear_da8c8_Jx4a65c tyJx4a65c tyJx4a65c_ok nmJx4a65c (by decide) (jm_w C 1 rfl) (u_same (jm_w C 2 rfl)) rfl (by decide +kernel) rfl rfl dJx4a65c_clear_da8c8_7 (fun H locs hJ hS => ?_)
  refine jw_aload_n C dJx4a65c_clear_da8c8_10 rfl (hl.at 0 rfl) ?_
  obtain ⟨v3, h3, hf⟩ := jm_rd_ok hf
  refine jw_gR (Cn := RJx4a65c) (T := TJx4a65c) (N := 3) C hJ h3 rfl inJx4a65c_clear_da8c8_Jx4a65c (by decide) (jm_w C 3 rfl) (fun _ h => h) dJx4a65c_clear_da8c8_11 ?_
  refine jw_astore_n C dJx4a65c_clear_da8c8_14 rfl hl (by decide) rfl (fun ls hl => ?_)
  refine jw_aload_n C dJx4a65c_clear_da8c8_15 rfl (hl.at 1 rfl) ?_
  obtain ⟨v4, h4, hf⟩ := jm_rd_ok hf
  refine jw_gI (Cn := RJx4a65c) (T := TJx4a65c) (N := 3) C hJ h4 rfl inJx4a65c_clear_da8c8_Jx4a65c (by decide) (jm_w C 4 rfl) (fun _ h => h) dJx4a65c_clear_da8c8_16 ?_
  refine jw_istore_n C dJx4a65c_clear_da8c8_19 rfl hl (by decide) rfl (fun ls hl => ?_)
  refine jw_aload_n C dJx4a65c_clear_da8c8_20 rfl (hl.at 2 rfl) ?_
  refine lv_iconst (v := 0) C.1 C.2.1 dJx4a65c_clear_da8c8_21 (by decide) ?_
  refine lv_dup_x1 C.1 C.2.1 dJx4a65c_clear_da8c8_22 rfl (jm_catr _) ?_
  obtain ⟨S5, h5, hf⟩ := jm_wr_ok hf
  refine jw_p (x := .inl 0) (ty := .int) (Cn := RJx4a65c) (T := TJx4a65c) (N := 3) C hJ hS h5 rfl inJx4a65c_clear_da8c8_Jx4a65c tyJx4a65c tyJx4a65c_ok nmJx4a65c (by decide) (jm_w C 4 rfl) (fun _ h => h) rfl (by decide +kernel) rfl rfl dJx4a65c_clear_da8c8_23 (fun H locs hJ hS => ?_)
  refine jw_istore_n C dJx4a65c_clear_da8c8_26 rfl hl (by decide) rfl (fun ls hl => ?_)
  exact kJx4a65c_clear_da8c8_27 C 4096 v3 v4 0 hf hJ hS (hl.sub [2, 1, 0] rfl)
set_option maxHeartbeats 4000000 in
set_option maxRecDepth 100000 in
theorem cJx4a65c_clear_da8c8_C (l : Launch) (G : jm_G) (h0 : Nat) {S Sf : jm_S} {rv : Unit} (hf : fJx4a65c_clear_da8c8 h0 S = some (rv, Sf)) : Met l yJx4a65c_clear_da8c8 wsJx4a65c_clear_da8c8 ({ frames := 0, cells := 0, slots := 0, locals := 0 } : Room) (jm_Pc G S [.ref h0]) (jm_Q G (none) Sf) 0 0 (jm_A G) := by
  refine va_MetF (cc := cJx4a65c_clear_da8c8) (maxL := 4) (ret := none) (by decide +kernel) rfl ?_
  intro p e s m args below meth c s₁ B hml hv
  obtain ⟨rfl, hJ, hX⟩ := hv
  have C : jm_C G cJx4a65c_clear_da8c8 4 RJx4a65c wsJx4a65c_clear_da8c8 (none) p s m _ meth c := ⟨B.exec, B.bytes, hml, findClass_of_methodNamed B.named, atoms_spec (ws := wsJx4a65c_clear_da8c8) B.pre, B.returns, B.notSynchronized, hX⟩
  obtain ⟨ls, he, hl⟩ := jm_entry m [.inr (some h0)] (n := 4) (Nat.le_of_ble_eq_true rfl)
  have he : entryFrame m ([.ref h0] : List Value).toArray 4 = F0 m 0 ls [] := he
  rw [he]
  exact kJx4a65c_clear_da8c8 C h0 hf hJ va_S.rf (hl.sub [0] rfl)
/-! java/util/ArrayList.size -/
def fJx4a65c_size_8abf5 (h0 : Nat) : jm_P Int32 := jm_rd (jm_gI (some h0) 0 2) fun v1 => jm_ret v1
theorem inJx4a65c_size_8abf5_Jx4a65c : ∀ w ∈ wsJx4a65c0, w ∈ wsJx4a65c_size_8abf5 := fun _ h => List.mem_cons_of_mem _ (List.mem_append_right _ h)
theorem moJx4a65c_size_8abf5 (h0 : Nat) : jm_Mo (fJx4a65c_size_8abf5 h0) := by
  unfold fJx4a65c_size_8abf5
  exact jm_Mo_rd (fun _ => jm_Mo_ret _)
set_option maxHeartbeats 4000000 in
set_option maxRecDepth 100000 in
theorem kJx4a65c_size_8abf5 {rv : Int32} {Sf : jm_S} (C : jm_C G cJx4a65c_size_8abf5 1 RJx4a65c wsJx4a65c_size_8abf5 ((some .int)) p s m args meth c) : ∀ (h0 : Nat) {S : jm_S} {H : Heap} {locs : List Loc} {ls : Array Slot}, fJx4a65c_size_8abf5 h0 S = some (rv, Sf) → jm_J G S H → va_S (jm_A G) s.heap H locs → jm_L ls 1 [(0, .inr (some h0))] → W p l e ({ frames := 0, cells := 0, slots := 0, locals := 0 } : Room) s m args below meth c H locs 0 0 (MQ below (jm_Q G (some (.int rv)) Sf) args s 0 0 (jm_A G)) (F0 m 0 ls []) := by
  intro h0 S H locs ls hf hJ hS hl
  unfold fJx4a65c_size_8abf5 at hf
  refine jw_aload_n C dJx4a65c_size_8abf5_0 rfl (hl.at 0 rfl) ?_
  obtain ⟨v1, h1, hf⟩ := jm_rd_ok hf
  refine jw_gI (Cn := RJx4a65c) (T := TJx4a65c) (N := 3) C hJ h1 rfl inJx4a65c_size_8abf5_Jx4a65c (by decide) (jm_w C 1 rfl) (fun _ h => h) dJx4a65c_size_8abf5_1 ?_
  obtain ⟨rfl, rfl⟩ := jm_ret_ok hf
  exact jw_ri C hJ hS (Nat.le_refl _) (Nat.le_refl _) dJx4a65c_size_8abf5_4
set_option maxHeartbeats 4000000 in
set_option maxRecDepth 100000 in
theorem cJx4a65c_size_8abf5_C (l : Launch) (G : jm_G) (h0 : Nat) {S Sf : jm_S} {rv : Int32} (hf : fJx4a65c_size_8abf5 h0 S = some (rv, Sf)) : Met l yJx4a65c_size_8abf5 wsJx4a65c_size_8abf5 ({ frames := 0, cells := 0, slots := 0, locals := 0 } : Room) (jm_Pc G S [.ref h0]) (jm_Q G (some (.int rv)) Sf) 0 0 (jm_A G) := by
  refine va_MetF (cc := cJx4a65c_size_8abf5) (maxL := 1) (ret := (some .int)) (by decide +kernel) rfl ?_
  intro p e s m args below meth c s₁ B hml hv
  obtain ⟨rfl, hJ, hX⟩ := hv
  have C : jm_C G cJx4a65c_size_8abf5 1 RJx4a65c wsJx4a65c_size_8abf5 ((some .int)) p s m _ meth c := ⟨B.exec, B.bytes, hml, findClass_of_methodNamed B.named, atoms_spec (ws := wsJx4a65c_size_8abf5) B.pre, B.returns, B.notSynchronized, hX⟩
  obtain ⟨ls, he, hl⟩ := jm_entry m [.inr (some h0)] (n := 1) (Nat.le_of_ble_eq_true rfl)
  have he : entryFrame m ([.ref h0] : List Value).toArray 1 = F0 m 0 ls [] := he
  rw [he]
  exact kJx4a65c_size_8abf5 C h0 hf hJ va_S.rf (hl.sub [0] rfl)
/-! jdk/internal/util/Preconditions.checkIndex -/
def fJ3_checkIndex_8e157 (x0 : Int32) (x1 : Int32) (x2 : Option Nat) : jm_P Int32 := (if x0 < 0 then jm_no else (if x0 < x1 then jm_ret x0 else jm_no))
theorem moJ3_checkIndex_8e157 (x0 : Int32) (x1 : Int32) (x2 : Option Nat) : jm_Mo (fJ3_checkIndex_8e157 x0 x1 x2) := by
  unfold fJ3_checkIndex_8e157
  exact jm_Mo_if (jm_Mo_no) (jm_Mo_if (jm_Mo_ret _) (jm_Mo_no))
set_option maxHeartbeats 4000000 in
set_option maxRecDepth 100000 in
theorem kJ3_checkIndex_8e157 {rv : Int32} {Sf : jm_S} (C : jm_C G cJ3_checkIndex_8e157 3 RJ3 wsJ3_checkIndex_8e157 ((some .int)) p s m args meth c) : ∀ (x0 : Int32) (x1 : Int32) (x2 : Option Nat) {S : jm_S} {H : Heap} {locs : List Loc} {ls : Array Slot}, fJ3_checkIndex_8e157 x0 x1 x2 S = some (rv, Sf) → jm_J G S H → va_S (jm_A G) s.heap H locs → jm_L ls 3 [(0, .inl x0), (1, .inl x1), (2, .inr x2)] → W p l e ({ frames := 0, cells := 0, slots := 0, locals := 0 } : Room) s m args below meth c H locs 0 0 (MQ below (jm_Q G (some (.int rv)) Sf) args s 0 0 (jm_A G)) (F0 m 0 ls []) := by
  intro x0 x1 x2 S H locs ls hf hJ hS hl
  unfold fJ3_checkIndex_8e157 at hf
  refine lv_iload_n C.1 C.2.1 dJ3_checkIndex_8e157_0 rfl (hl.at 0 rfl) ?_
  refine lv_if_lt (tgt := 9) C.1 C.2.1 dJ3_checkIndex_8e157_1 (by decide) (fun hq1 => ?_) (fun hq1 => ?_)
  · replace hf := jm_ift hf hq1
    refine jw_aload_n C dJ3_checkIndex_8e157_9 rfl (hl.at 2 rfl) ?_
    refine lv_iload_n C.1 C.2.1 dJ3_checkIndex_8e157_10 rfl (hl.at 0 rfl) ?_
    refine lv_iload_n C.1 C.2.1 dJ3_checkIndex_8e157_11 rfl (hl.at 1 rfl) ?_
    exact absurd hf (fun h => jm_no_ok h)
  · replace hf := jm_iff hf hq1
    refine lv_iload_n C.1 C.2.1 dJ3_checkIndex_8e157_4 rfl (hl.at 0 rfl) ?_
    refine lv_iload_n C.1 C.2.1 dJ3_checkIndex_8e157_5 rfl (hl.at 1 rfl) ?_
    refine lv_icmp_lt (tgt := 16) C.1 C.2.1 dJ3_checkIndex_8e157_6 (by decide) (fun hq3 => ?_) (fun hq3 => ?_)
    · replace hf := jm_ift hf hq3
      refine lv_iload_n C.1 C.2.1 dJ3_checkIndex_8e157_16 rfl (hl.at 0 rfl) ?_
      obtain ⟨rfl, rfl⟩ := jm_ret_ok hf
      exact jw_ri C hJ hS (Nat.le_refl _) (Nat.le_refl _) dJ3_checkIndex_8e157_17
    · replace hf := jm_iff hf hq3
      refine jw_aload_n C dJ3_checkIndex_8e157_9 rfl (hl.at 2 rfl) ?_
      refine lv_iload_n C.1 C.2.1 dJ3_checkIndex_8e157_10 rfl (hl.at 0 rfl) ?_
      refine lv_iload_n C.1 C.2.1 dJ3_checkIndex_8e157_11 rfl (hl.at 1 rfl) ?_
      exact absurd hf (fun h => jm_no_ok h)
set_option maxHeartbeats 4000000 in
set_option maxRecDepth 100000 in
theorem cJ3_checkIndex_8e157_C (l : Launch) (G : jm_G) (x0 : Int32) (x1 : Int32) (x2 : Option Nat) {S Sf : jm_S} {rv : Int32} (hf : fJ3_checkIndex_8e157 x0 x1 x2 S = some (rv, Sf)) : Met l yJ3_checkIndex_8e157 wsJ3_checkIndex_8e157 ({ frames := 0, cells := 0, slots := 0, locals := 0 } : Room) (jm_Pc G S [.int x0, .int x1, va_rf x2]) (jm_Q G (some (.int rv)) Sf) 0 0 (jm_A G) := by
  refine va_MetF (cc := cJ3_checkIndex_8e157) (maxL := 3) (ret := (some .int)) (by decide +kernel) rfl ?_
  intro p e s m args below meth c s₁ B hml hv
  obtain ⟨rfl, hJ, hX⟩ := hv
  have C : jm_C G cJ3_checkIndex_8e157 3 RJ3 wsJ3_checkIndex_8e157 ((some .int)) p s m _ meth c := ⟨B.exec, B.bytes, hml, findClass_of_methodNamed B.named, atoms_spec (ws := wsJ3_checkIndex_8e157) B.pre, B.returns, B.notSynchronized, hX⟩
  obtain ⟨ls, he, hl⟩ := jm_entry m [.inl x0, .inl x1, .inr x2] (n := 3) (Nat.le_of_ble_eq_true rfl)
  have he : entryFrame m ([.int x0, .int x1, va_rf x2] : List Value).toArray 3 = F0 m 0 ls [] := he
  rw [he]
  exact kJ3_checkIndex_8e157 C x0 x1 x2 hf hJ va_S.rf (hl.sub [0, 1, 2] rfl)
/-! java/util/Objects.checkIndex -/
def fJ15_checkIndex_7cf53 (x0 : Int32) (x1 : Int32) : jm_P Int32 := jm_bd (fJ3_checkIndex_8e157 x0 x1 none) fun v1 => jm_ret v1
theorem moJ15_checkIndex_7cf53 (x0 : Int32) (x1 : Int32) : jm_Mo (fJ15_checkIndex_7cf53 x0 x1) := by
  unfold fJ15_checkIndex_7cf53
  exact jm_Mo_bd (moJ3_checkIndex_8e157 _ _ _) (fun _ => jm_Mo_ret _)
set_option maxHeartbeats 4000000 in
set_option maxRecDepth 100000 in
theorem kJ15_checkIndex_7cf53 {rv : Int32} {Sf : jm_S} (C : jm_C G cJ15_checkIndex_7cf53 2 RJ15 wsJ15_checkIndex_7cf53 ((some .int)) p s m args meth c) : ∀ (x0 : Int32) (x1 : Int32) {S : jm_S} {H : Heap} {locs : List Loc} {ls : Array Slot}, fJ15_checkIndex_7cf53 x0 x1 S = some (rv, Sf) → jm_J G S H → va_S (jm_A G) s.heap H locs → jm_L ls 2 [(0, .inl x0), (1, .inl x1)] → W p l e ({ frames := 1, cells := 0, slots := 0, locals := 22 } : Room) s m args below meth c H locs 0 0 (MQ below (jm_Q G (some (.int rv)) Sf) args s 0 0 (jm_A G)) (F0 m 0 ls []) := by
  intro x0 x1 S H locs ls hf hJ hS hl
  unfold fJ15_checkIndex_7cf53 at hf
  refine lv_iload_n C.1 C.2.1 dJ15_checkIndex_7cf53_0 rfl (hl.at 0 rfl) ?_
  refine lv_iload_n C.1 C.2.1 dJ15_checkIndex_7cf53_1 rfl (hl.at 1 rfl) ?_
  refine lv_null C.1 C.2.1 dJ15_checkIndex_7cf53_2 ?_
  show W _ _ _ _ _ _ _ _ _ _ _ _ _ _ _ (F0 _ _ _ (va_rf none :: _))
  obtain ⟨v1, S1, h1, hf⟩ := jm_bd_ok hf
  refine jw_cS C hJ hS (cJ3_checkIndex_8e157_C l G x0 x1 none h1) (va_cwS 3 C.2.2.2.2.1 gJ15_checkIndex_7cf53_J3_checkIndex_8e157 rfl rfl rfl (by decide +kernel) ⟨Nat.le_of_ble_eq_true rfl, Nat.le_of_ble_eq_true rfl⟩) rfl hl.1 rfl (Nat.le_of_ble_eq_true rfl) dJ15_checkIndex_7cf53_3 ⟨Nat.le_refl _, Nat.le_refl _⟩ (fun H locs hJ hS => ?_)
  obtain ⟨rfl, rfl⟩ := jm_ret_ok hf
  exact jw_ri C hJ hS (Nat.le_refl _) (Nat.le_refl _) dJ15_checkIndex_7cf53_6
set_option maxHeartbeats 4000000 in
set_option maxRecDepth 100000 in
theorem cJ15_checkIndex_7cf53_C (l : Launch) (G : jm_G) (x0 : Int32) (x1 : Int32) {S Sf : jm_S} {rv : Int32} (hf : fJ15_checkIndex_7cf53 x0 x1 S = some (rv, Sf)) : Met l yJ15_checkIndex_7cf53 wsJ15_checkIndex_7cf53 ({ frames := 1, cells := 0, slots := 0, locals := 22 } : Room) (jm_Pc G S [.int x0, .int x1]) (jm_Q G (some (.int rv)) Sf) 0 0 (jm_A G) := by
  refine va_MetF (cc := cJ15_checkIndex_7cf53) (maxL := 2) (ret := (some .int)) (by decide +kernel) rfl ?_
  intro p e s m args below meth c s₁ B hml hv
  obtain ⟨rfl, hJ, hX⟩ := hv
  have C : jm_C G cJ15_checkIndex_7cf53 2 RJ15 wsJ15_checkIndex_7cf53 ((some .int)) p s m _ meth c := ⟨B.exec, B.bytes, hml, findClass_of_methodNamed B.named, atoms_spec (ws := wsJ15_checkIndex_7cf53) B.pre, B.returns, B.notSynchronized, hX⟩
  obtain ⟨ls, he, hl⟩ := jm_entry m [.inl x0, .inl x1] (n := 2) (Nat.le_of_ble_eq_true rfl)
  have he : entryFrame m ([.int x0, .int x1] : List Value).toArray 2 = F0 m 0 ls [] := he
  rw [he]
  exact kJ15_checkIndex_7cf53 C x0 x1 hf hJ va_S.rf (hl.sub [0, 1] rfl)
/-! java/util/ArrayList.elementData -/
def fJx4a65c_elementData_915e3 (h0 : Nat) (x1 : Int32) : jm_P (Option Nat) := jm_rd (jm_gR (some h0) 0 1) fun v1 => jm_rd (jm_gq v1 5 x1) fun v2 => jm_ret v2
theorem inJx4a65c_elementData_915e3_Jx4a65c : ∀ w ∈ wsJx4a65c0, w ∈ wsJx4a65c_elementData_915e3 := fun _ h => List.mem_cons_of_mem _ (List.mem_append_right _ h)
theorem moJx4a65c_elementData_915e3 (h0 : Nat) (x1 : Int32) : jm_Mo (fJx4a65c_elementData_915e3 h0 x1) := by
  unfold fJx4a65c_elementData_915e3
  exact jm_Mo_rd (fun _ => jm_Mo_rd (fun _ => jm_Mo_ret _))
set_option maxHeartbeats 4000000 in
set_option maxRecDepth 100000 in
theorem kJx4a65c_elementData_915e3 {rv : (Option Nat)} {Sf : jm_S} (C : jm_C G cJx4a65c_elementData_915e3 2 RJx4a65c wsJx4a65c_elementData_915e3 ((some (.object "java/lang/Object"))) p s m args meth c) : ∀ (h0 : Nat) (x1 : Int32) {S : jm_S} {H : Heap} {locs : List Loc} {ls : Array Slot}, fJx4a65c_elementData_915e3 h0 x1 S = some (rv, Sf) → jm_J G S H → va_S (jm_A G) s.heap H locs → jm_L ls 2 [(0, .inr (some h0)), (1, .inl x1)] → W p l e ({ frames := 0, cells := 0, slots := 0, locals := 0 } : Room) s m args below meth c H locs 0 0 (MQ below (jm_Q G (some (va_rf rv)) Sf) args s 0 0 (jm_A G)) (F0 m 0 ls []) := by
  intro h0 x1 S H locs ls hf hJ hS hl
  unfold fJx4a65c_elementData_915e3 at hf
  refine jw_aload_n C dJx4a65c_elementData_915e3_0 rfl (hl.at 0 rfl) ?_
  obtain ⟨v1, h1, hf⟩ := jm_rd_ok hf
  refine jw_gR (Cn := RJx4a65c) (T := TJx4a65c) (N := 3) C hJ h1 rfl inJx4a65c_elementData_915e3_Jx4a65c (by decide) (jm_w C 1 rfl) (fun _ h => h) dJx4a65c_elementData_915e3_1 ?_
  refine lv_iload_n C.1 C.2.1 dJx4a65c_elementData_915e3_4 rfl (hl.at 1 rfl) ?_
  obtain ⟨v2, h2, hf⟩ := jm_rd_ok hf
  refine jw_aaload C hJ h2 (by decide) rfl dJx4a65c_elementData_915e3_5 ?_
  obtain ⟨rfl, rfl⟩ := jm_ret_ok hf
  exact jw_ra C (Or.inl ⟨_, rfl⟩) hJ hS (Nat.le_refl _) (Nat.le_refl _) dJx4a65c_elementData_915e3_6
set_option maxHeartbeats 4000000 in
set_option maxRecDepth 100000 in
theorem cJx4a65c_elementData_915e3_C (l : Launch) (G : jm_G) (h0 : Nat) (x1 : Int32) {S Sf : jm_S} {rv : (Option Nat)} (hf : fJx4a65c_elementData_915e3 h0 x1 S = some (rv, Sf)) : Met l yJx4a65c_elementData_915e3 wsJx4a65c_elementData_915e3 ({ frames := 0, cells := 0, slots := 0, locals := 0 } : Room) (jm_Pc G S [.ref h0, .int x1]) (jm_Q G (some (va_rf rv)) Sf) 0 0 (jm_A G) := by
  refine va_MetF (cc := cJx4a65c_elementData_915e3) (maxL := 2) (ret := (some (.object "java/lang/Object"))) (by decide +kernel) rfl ?_
  intro p e s m args below meth c s₁ B hml hv
  obtain ⟨rfl, hJ, hX⟩ := hv
  have C : jm_C G cJx4a65c_elementData_915e3 2 RJx4a65c wsJx4a65c_elementData_915e3 ((some (.object "java/lang/Object"))) p s m _ meth c := ⟨B.exec, B.bytes, hml, findClass_of_methodNamed B.named, atoms_spec (ws := wsJx4a65c_elementData_915e3) B.pre, B.returns, B.notSynchronized, hX⟩
  obtain ⟨ls, he, hl⟩ := jm_entry m [.inr (some h0), .inl x1] (n := 2) (Nat.le_of_ble_eq_true rfl)
  have he : entryFrame m ([.ref h0, .int x1] : List Value).toArray 2 = F0 m 0 ls [] := he
  rw [he]
  exact kJx4a65c_elementData_915e3 C h0 x1 hf hJ va_S.rf (hl.sub [0, 1] rfl)
/-! java/util/ArrayList.get -/
def fJx4a65c_get_915e3 (h0 : Nat) (x1 : Int32) : jm_P (Option Nat) := jm_rd (jm_gI (some h0) 0 2) fun v1 => jm_bd (fJ15_checkIndex_7cf53 x1 v1) fun v2 => jm_rd (jm_o (some h0) 0) fun a3 => jm_bd (fJx4a65c_elementData_915e3 a3 x1) fun v3 => jm_ret v3
theorem inJx4a65c_get_915e3_Jx4a65c : ∀ w ∈ wsJx4a65c0, w ∈ wsJx4a65c_get_915e3 := fun _ h => List.mem_cons_of_mem _ (List.mem_append_right _ h)
theorem moJx4a65c_get_915e3 (h0 : Nat) (x1 : Int32) : jm_Mo (fJx4a65c_get_915e3 h0 x1) := by
  unfold fJx4a65c_get_915e3
  exact jm_Mo_rd (fun _ => jm_Mo_bd (moJ15_checkIndex_7cf53 _ _) (fun _ => jm_Mo_rd (fun _ => jm_Mo_bd (moJx4a65c_elementData_915e3 _ _) (fun _ => jm_Mo_ret _))))
set_option maxHeartbeats 4000000 in
set_option maxRecDepth 100000 in
theorem kJx4a65c_get_915e3 {rv : (Option Nat)} {Sf : jm_S} (C : jm_C G cJx4a65c_get_915e3 2 RJx4a65c wsJx4a65c_get_915e3 ((some (.object "java/lang/Object"))) p s m args meth c) : ∀ (h0 : Nat) (x1 : Int32) {S : jm_S} {H : Heap} {locs : List Loc} {ls : Array Slot}, fJx4a65c_get_915e3 h0 x1 S = some (rv, Sf) → jm_J G S H → va_S (jm_A G) s.heap H locs → jm_L ls 2 [(0, .inr (some h0)), (1, .inl x1)] → W p l e ({ frames := 2, cells := 0, slots := 0, locals := 43 } : Room) s m args below meth c H locs 0 0 (MQ below (jm_Q G (some (va_rf rv)) Sf) args s 0 0 (jm_A G)) (F0 m 0 ls []) := by
  intro h0 x1 S H locs ls hf hJ hS hl
  unfold fJx4a65c_get_915e3 at hf
  refine lv_iload_n C.1 C.2.1 dJx4a65c_get_915e3_0 rfl (hl.at 1 rfl) ?_
  refine jw_aload_n C dJx4a65c_get_915e3_1 rfl (hl.at 0 rfl) ?_
  obtain ⟨v1, h1, hf⟩ := jm_rd_ok hf
  refine jw_gI (Cn := RJx4a65c) (T := TJx4a65c) (N := 3) C hJ h1 rfl inJx4a65c_get_915e3_Jx4a65c (by decide) (jm_w C 1 rfl) (fun _ h => h) dJx4a65c_get_915e3_2 ?_
  obtain ⟨v2, S2, h2, hf⟩ := jm_bd_ok hf
  refine jw_cS C hJ hS (cJ15_checkIndex_7cf53_C l G x1 v1 h2) (va_cwS 2 C.2.2.2.2.1 gJx4a65c_get_915e3_J15_checkIndex_7cf53 rfl rfl rfl (by decide +kernel) ⟨Nat.le_of_ble_eq_true rfl, Nat.le_of_ble_eq_true rfl⟩) rfl hl.1 rfl (Nat.le_of_ble_eq_true rfl) dJx4a65c_get_915e3_5 ⟨Nat.le_refl _, Nat.le_refl _⟩ (fun H locs hJ hS => ?_)
  refine lv_pop C.1 C.2.1 dJx4a65c_get_915e3_8 rfl ?_
  refine jw_aload_n C dJx4a65c_get_915e3_9 rfl (hl.at 0 rfl) ?_
  refine lv_iload_n C.1 C.2.1 dJx4a65c_get_915e3_10 rfl (hl.at 1 rfl) ?_
  obtain ⟨a3, o3, hf⟩ := jm_rd_ok hf
  obtain ⟨v3, S3, h3, hf⟩ := jm_bd_ok hf
  refine jw_cV (q := (RJx4a65c, TJx4a65c, 3)) C hJ hS o3 rfl (cJx4a65c_elementData_915e3_C l G a3 x1 h3) (cwV 1 C.2.2.2.2.1 gJx4a65c_get_915e3_Jx4a65c_elementData_915e3 rfl rfl rfl (by decide +kernel) ⟨Nat.le_of_ble_eq_true rfl, Nat.le_of_ble_eq_true rfl⟩) rfl hl.1 rfl (Nat.le_of_ble_eq_true rfl) dJx4a65c_get_915e3_11 ⟨Nat.le_refl _, Nat.le_refl _⟩ (fun H locs hJ hS => ?_)
  obtain ⟨rfl, rfl⟩ := jm_ret_ok hf
  exact jw_ra C (Or.inl ⟨_, rfl⟩) hJ hS (Nat.le_refl _) (Nat.le_refl _) dJx4a65c_get_915e3_14
set_option maxHeartbeats 4000000 in
set_option maxRecDepth 100000 in
theorem cJx4a65c_get_915e3_C (l : Launch) (G : jm_G) (h0 : Nat) (x1 : Int32) {S Sf : jm_S} {rv : (Option Nat)} (hf : fJx4a65c_get_915e3 h0 x1 S = some (rv, Sf)) : Met l yJx4a65c_get_915e3 wsJx4a65c_get_915e3 ({ frames := 2, cells := 0, slots := 0, locals := 43 } : Room) (jm_Pc G S [.ref h0, .int x1]) (jm_Q G (some (va_rf rv)) Sf) 0 0 (jm_A G) := by
  refine va_MetF (cc := cJx4a65c_get_915e3) (maxL := 2) (ret := (some (.object "java/lang/Object"))) (by decide +kernel) rfl ?_
  intro p e s m args below meth c s₁ B hml hv
  obtain ⟨rfl, hJ, hX⟩ := hv
  have C : jm_C G cJx4a65c_get_915e3 2 RJx4a65c wsJx4a65c_get_915e3 ((some (.object "java/lang/Object"))) p s m _ meth c := ⟨B.exec, B.bytes, hml, findClass_of_methodNamed B.named, atoms_spec (ws := wsJx4a65c_get_915e3) B.pre, B.returns, B.notSynchronized, hX⟩
  obtain ⟨ls, he, hl⟩ := jm_entry m [.inr (some h0), .inl x1] (n := 2) (Nat.le_of_ble_eq_true rfl)
  have he : entryFrame m ([.ref h0, .int x1] : List Value).toArray 2 = F0 m 0 ls [] := he
  rw [he]
  exact kJx4a65c_get_915e3 C h0 x1 hf hJ va_S.rf (hl.sub [0, 1] rfl)
/-! java/util/ArrayList.fastRemove -/
def fJx4a65c_fastRemove_b59b0 (h0 : Nat) (x1 : Option Nat) (x2 : Int32) : jm_P Unit := jm_rd (jm_gI (some h0) 0 0) fun v1 => jm_wr (jm_p (some h0) 0 0 (.inl (v1 + 1))) <| jm_rd (jm_gI (some h0) 0 2) fun v3 => (if (v3 - 1) ≤ x2 then jm_wr (jm_p (some h0) 0 2 (.inl (v3 - 1))) <| jm_wr (jm_sq x1 5 (v3 - 1) none) <| jm_ret () else jm_wr (jm_cp x1 (x2 + 1) x1 x2 ((v3 - 1) - x2)) <| jm_wr (jm_p (some h0) 0 2 (.inl (v3 - 1))) <| jm_wr (jm_sq x1 5 (v3 - 1) none) <| jm_ret ())
theorem inJx4a65c_fastRemove_b59b0_Jx4a65c : ∀ w ∈ wsJx4a65c0, w ∈ wsJx4a65c_fastRemove_b59b0 := fun _ h => List.mem_cons_of_mem _ (List.mem_append_right _ h)
theorem moJx4a65c_fastRemove_b59b0 (h0 : Nat) (x1 : Option Nat) (x2 : Int32) : jm_Mo (fJx4a65c_fastRemove_b59b0 h0 x1 x2) := by
  unfold fJx4a65c_fastRemove_b59b0
  exact jm_Mo_rd (fun _ => jm_Mo_wr jm_p_st (jm_Mo_rd (fun _ => jm_Mo_if (jm_Mo_wr jm_p_st (jm_Mo_wr jm_sq_st (jm_Mo_ret _))) (jm_Mo_wr jm_cp_st (jm_Mo_wr jm_p_st (jm_Mo_wr jm_sq_st (jm_Mo_ret _)))))))
set_option maxHeartbeats 4000000 in
set_option maxRecDepth 100000 in
theorem kJx4a65c_fastRemove_b59b0 {rv : Unit} {Sf : jm_S} (C : jm_C G cJx4a65c_fastRemove_b59b0 4 RJx4a65c wsJx4a65c_fastRemove_b59b0 (none) p s m args meth c) : ∀ (h0 : Nat) (x1 : Option Nat) (x2 : Int32) {S : jm_S} {H : Heap} {locs : List Loc} {ls : Array Slot}, fJx4a65c_fastRemove_b59b0 h0 x1 x2 S = some (rv, Sf) → jm_J G S H → va_S (jm_A G) s.heap H locs → jm_L ls 4 [(0, .inr (some h0)), (1, .inr x1), (2, .inl x2)] → W p l e ({ frames := 1, cells := 0, slots := 0, locals := 40 } : Room) s m args below meth c H locs 0 0 (MQ below (jm_Q G (none) Sf) args s 0 0 (jm_A G)) (F0 m 0 ls []) := by
  intro h0 x1 x2 S H locs ls hf hJ hS hl
  unfold fJx4a65c_fastRemove_b59b0 at hf
  refine jw_aload_n C dJx4a65c_fastRemove_b59b0_0 rfl (hl.at 0 rfl) ?_
  refine lv_dup C.1 C.2.1 dJx4a65c_fastRemove_b59b0_1 (jm_catr _) ?_
  obtain ⟨v1, h1, hf⟩ := jm_rd_ok hf
  refine jw_gI (Cn := RJx4a65c) (T := TJx4a65c) (N := 3) C hJ h1 rfl inJx4a65c_fastRemove_b59b0_Jx4a65c (by decide) (jm_w C 1 rfl) (u_same (jm_w C 2 rfl)) dJx4a65c_fastRemove_b59b0_2 ?_
  refine lv_iconst (v := 1) C.1 C.2.1 dJx4a65c_fastRemove_b59b0_5 (by decide) ?_
  refine lv_iadd C.1 C.2.1 dJx4a65c_fastRemove_b59b0_6 ?_
  obtain ⟨S2, h2, hf⟩ := jm_wr_ok hf
  refine jw_p (x := .inl (v1 + 1)) (ty := .int) (Cn := RJx4a65c) (T := TJx4a65c) (N := 3) C hJ hS h2 rfl inJx4a65c_fastRemove_b59b0_Jx4a65c tyJx4a65c tyJx4a65c_ok nmJx4a65c (by decide) (jm_w C 1 rfl) (u_same (jm_w C 2 rfl)) rfl (by decide +kernel) rfl rfl dJx4a65c_fastRemove_b59b0_7 (fun H locs hJ hS => ?_)
  refine jw_aload_n C dJx4a65c_fastRemove_b59b0_10 rfl (hl.at 0 rfl) ?_
  obtain ⟨v3, h3, hf⟩ := jm_rd_ok hf
  refine jw_gI (Cn := RJx4a65c) (T := TJx4a65c) (N := 3) C hJ h3 rfl inJx4a65c_fastRemove_b59b0_Jx4a65c (by decide) (jm_w C 3 rfl) (fun _ h => h) dJx4a65c_fastRemove_b59b0_11 ?_
  refine lv_iconst (v := 1) C.1 C.2.1 dJx4a65c_fastRemove_b59b0_14 (by decide) ?_
  refine lv_isub C.1 C.2.1 dJx4a65c_fastRemove_b59b0_15 ?_
  refine lv_dup C.1 C.2.1 dJx4a65c_fastRemove_b59b0_16 rfl ?_
  refine jw_istore_n C dJx4a65c_fastRemove_b59b0_17 rfl hl (by decide) rfl (fun ls hl => ?_)
  refine lv_iload_n C.1 C.2.1 dJx4a65c_fastRemove_b59b0_18 rfl (hl.at 3 rfl) ?_
  refine lv_icmp_le (tgt := 34) C.1 C.2.1 dJx4a65c_fastRemove_b59b0_19 (by decide) (fun hq4 => ?_) (fun hq4 => ?_)
  · replace hf := jm_ift hf hq4
    refine jw_aload_n C dJx4a65c_fastRemove_b59b0_34 rfl (hl.at 2 rfl) ?_
    refine jw_aload_n C dJx4a65c_fastRemove_b59b0_35 rfl (hl.at 1 rfl) ?_
    refine lv_iload_n C.1 C.2.1 dJx4a65c_fastRemove_b59b0_36 rfl (hl.at 0 rfl) ?_
    refine lv_dup_x1 C.1 C.2.1 dJx4a65c_fastRemove_b59b0_37 rfl (jm_catr _) ?_
    obtain ⟨S5, h5, hf⟩ := jm_wr_ok hf
    refine jw_p (x := .inl (v3 - 1)) (ty := .int) (Cn := RJx4a65c) (T := TJx4a65c) (N := 3) C hJ hS h5 rfl inJx4a65c_fastRemove_b59b0_Jx4a65c tyJx4a65c tyJx4a65c_ok nmJx4a65c (by decide) (jm_w C 3 rfl) (fun _ h => h) rfl (by decide +kernel) rfl rfl dJx4a65c_fastRemove_b59b0_38 (fun H locs hJ hS => ?_)
    refine lv_null C.1 C.2.1 dJx4a65c_fastRemove_b59b0_41 ?_
    show W _ _ _ _ _ _ _ _ _ _ _ _ _ _ _ (F0 _ _ _ (va_rf none :: _))
    obtain ⟨S6, h6, hf⟩ := jm_wr_ok hf
    refine jw_aastore C hJ hS h6 (by decide) rfl dJx4a65c_fastRemove_b59b0_42 (fun H locs hJ hS => ?_)
    obtain ⟨rfl, rfl⟩ := jm_ret_ok hf
    exact jw_rv C hJ hS (Nat.le_refl _) (Nat.le_refl _) dJx4a65c_fastRemove_b59b0_43
  · replace hf := jm_iff hf hq4
    refine jw_aload_n C dJx4a65c_fastRemove_b59b0_22 rfl (hl.at 2 rfl) ?_
    refine lv_iload_n C.1 C.2.1 dJx4a65c_fastRemove_b59b0_23 rfl (hl.at 3 rfl) ?_
    refine lv_iconst (v := 1) C.1 C.2.1 dJx4a65c_fastRemove_b59b0_24 (by decide) ?_
    refine lv_iadd C.1 C.2.1 dJx4a65c_fastRemove_b59b0_25 ?_
    refine jw_aload_n C dJx4a65c_fastRemove_b59b0_26 rfl (hl.at 2 rfl) ?_
    refine lv_iload_n C.1 C.2.1 dJx4a65c_fastRemove_b59b0_27 rfl (hl.at 3 rfl) ?_
    refine lv_iload_n C.1 C.2.1 dJx4a65c_fastRemove_b59b0_28 rfl (hl.at 0 rfl) ?_
    refine lv_iload_n C.1 C.2.1 dJx4a65c_fastRemove_b59b0_29 rfl (hl.at 3 rfl) ?_
    refine lv_isub C.1 C.2.1 dJx4a65c_fastRemove_b59b0_30 ?_
    obtain ⟨S7, h7, hf⟩ := jm_wr_ok hf
    refine jw_cp C hJ hS h7 hl.1 (jm_w C 4 rfl) (jm_w C 5 rfl) (jm_w C 6 rfl) (jm_w C 7 rfl) (Nat.le_of_ble_eq_true rfl) (jm_w8s _ (Nat.le_of_ble_eq_true rfl) (Nat.le_of_ble_eq_true (by rfl))) dJx4a65c_fastRemove_b59b0_31 (fun H locs hJ hS => ?_)
    refine jw_aload_n C dJx4a65c_fastRemove_b59b0_34 rfl (hl.at 2 rfl) ?_
    refine jw_aload_n C dJx4a65c_fastRemove_b59b0_35 rfl (hl.at 1 rfl) ?_
    refine lv_iload_n C.1 C.2.1 dJx4a65c_fastRemove_b59b0_36 rfl (hl.at 0 rfl) ?_
    refine lv_dup_x1 C.1 C.2.1 dJx4a65c_fastRemove_b59b0_37 rfl (jm_catr _) ?_
    obtain ⟨S8, h8, hf⟩ := jm_wr_ok hf
    refine jw_p (x := .inl (v3 - 1)) (ty := .int) (Cn := RJx4a65c) (T := TJx4a65c) (N := 3) C hJ hS h8 rfl inJx4a65c_fastRemove_b59b0_Jx4a65c tyJx4a65c tyJx4a65c_ok nmJx4a65c (by decide) (jm_w C 3 rfl) (fun _ h => h) rfl (by decide +kernel) rfl rfl dJx4a65c_fastRemove_b59b0_38 (fun H locs hJ hS => ?_)
    refine lv_null C.1 C.2.1 dJx4a65c_fastRemove_b59b0_41 ?_
    show W _ _ _ _ _ _ _ _ _ _ _ _ _ _ _ (F0 _ _ _ (va_rf none :: _))
    obtain ⟨S9, h9, hf⟩ := jm_wr_ok hf
    refine jw_aastore C hJ hS h9 (by decide) rfl dJx4a65c_fastRemove_b59b0_42 (fun H locs hJ hS => ?_)
    obtain ⟨rfl, rfl⟩ := jm_ret_ok hf
    exact jw_rv C hJ hS (Nat.le_refl _) (Nat.le_refl _) dJx4a65c_fastRemove_b59b0_43
set_option maxHeartbeats 4000000 in
set_option maxRecDepth 100000 in
theorem cJx4a65c_fastRemove_b59b0_C (l : Launch) (G : jm_G) (h0 : Nat) (x1 : Option Nat) (x2 : Int32) {S Sf : jm_S} {rv : Unit} (hf : fJx4a65c_fastRemove_b59b0 h0 x1 x2 S = some (rv, Sf)) : Met l yJx4a65c_fastRemove_b59b0 wsJx4a65c_fastRemove_b59b0 ({ frames := 1, cells := 0, slots := 0, locals := 40 } : Room) (jm_Pc G S [.ref h0, va_rf x1, .int x2]) (jm_Q G (none) Sf) 0 0 (jm_A G) := by
  refine va_MetF (cc := cJx4a65c_fastRemove_b59b0) (maxL := 4) (ret := none) (by decide +kernel) rfl ?_
  intro p e s m args below meth c s₁ B hml hv
  obtain ⟨rfl, hJ, hX⟩ := hv
  have C : jm_C G cJx4a65c_fastRemove_b59b0 4 RJx4a65c wsJx4a65c_fastRemove_b59b0 (none) p s m _ meth c := ⟨B.exec, B.bytes, hml, findClass_of_methodNamed B.named, atoms_spec (ws := wsJx4a65c_fastRemove_b59b0) B.pre, B.returns, B.notSynchronized, hX⟩
  obtain ⟨ls, he, hl⟩ := jm_entry m [.inr (some h0), .inr x1, .inl x2] (n := 4) (Nat.le_of_ble_eq_true rfl)
  have he : entryFrame m ([.ref h0, va_rf x1, .int x2] : List Value).toArray 4 = F0 m 0 ls [] := he
  rw [he]
  exact kJx4a65c_fastRemove_b59b0 C h0 x1 x2 hf hJ va_S.rf (hl.sub [0, 1, 2] rfl)
/-! java/util/ArrayList.remove -/
def fJx4a65c_remove_915e3 (h0 : Nat) (x1 : Int32) : jm_P (Option Nat) := jm_rd (jm_gI (some h0) 0 2) fun v1 => jm_bd (fJ15_checkIndex_7cf53 x1 v1) fun v2 => jm_rd (jm_gR (some h0) 0 1) fun v3 => jm_rd (jm_gq v3 5 x1) fun v4 => jm_rd (jm_o (some h0) 0) fun a5 => jm_bd (fJx4a65c_fastRemove_b59b0 a5 v3 x1) fun _ => jm_ret v4
theorem inJx4a65c_remove_915e3_Jx4a65c : ∀ w ∈ wsJx4a65c0, w ∈ wsJx4a65c_remove_915e3 := fun _ h => List.mem_cons_of_mem _ (List.mem_append_right _ h)
theorem moJx4a65c_remove_915e3 (h0 : Nat) (x1 : Int32) : jm_Mo (fJx4a65c_remove_915e3 h0 x1) := by
  unfold fJx4a65c_remove_915e3
  exact jm_Mo_rd (fun _ => jm_Mo_bd (moJ15_checkIndex_7cf53 _ _) (fun _ => jm_Mo_rd (fun _ => jm_Mo_rd (fun _ => jm_Mo_rd (fun _ => jm_Mo_bd (moJx4a65c_fastRemove_b59b0 _ _ _) (fun _ => jm_Mo_ret _))))))
set_option maxHeartbeats 4000000 in
set_option maxRecDepth 100000 in
theorem kJx4a65c_remove_915e3 {rv : (Option Nat)} {Sf : jm_S} (C : jm_C G cJx4a65c_remove_915e3 4 RJx4a65c wsJx4a65c_remove_915e3 ((some (.object "java/lang/Object"))) p s m args meth c) : ∀ (h0 : Nat) (x1 : Int32) {S : jm_S} {H : Heap} {locs : List Loc} {ls : Array Slot}, fJx4a65c_remove_915e3 h0 x1 S = some (rv, Sf) → jm_J G S H → va_S (jm_A G) s.heap H locs → jm_L ls 4 [(0, .inr (some h0)), (1, .inl x1)] → W p l e ({ frames := 2, cells := 0, slots := 0, locals := 63 } : Room) s m args below meth c H locs 0 0 (MQ below (jm_Q G (some (va_rf rv)) Sf) args s 0 0 (jm_A G)) (F0 m 0 ls []) := by
  intro h0 x1 S H locs ls hf hJ hS hl
  unfold fJx4a65c_remove_915e3 at hf
  refine lv_iload_n C.1 C.2.1 dJx4a65c_remove_915e3_0 rfl (hl.at 1 rfl) ?_
  refine jw_aload_n C dJx4a65c_remove_915e3_1 rfl (hl.at 0 rfl) ?_
  obtain ⟨v1, h1, hf⟩ := jm_rd_ok hf
  refine jw_gI (Cn := RJx4a65c) (T := TJx4a65c) (N := 3) C hJ h1 rfl inJx4a65c_remove_915e3_Jx4a65c (by decide) (jm_w C 1 rfl) (fun _ h => h) dJx4a65c_remove_915e3_2 ?_
  obtain ⟨v2, S2, h2, hf⟩ := jm_bd_ok hf
  refine jw_cS C hJ hS (cJ15_checkIndex_7cf53_C l G x1 v1 h2) (va_cwS 2 C.2.2.2.2.1 gJx4a65c_remove_915e3_J15_checkIndex_7cf53 rfl rfl rfl (by decide +kernel) ⟨Nat.le_of_ble_eq_true rfl, Nat.le_of_ble_eq_true rfl⟩) rfl hl.1 rfl (Nat.le_of_ble_eq_true rfl) dJx4a65c_remove_915e3_5 ⟨Nat.le_refl _, Nat.le_refl _⟩ (fun H locs hJ hS => ?_)
  refine lv_pop C.1 C.2.1 dJx4a65c_remove_915e3_8 rfl ?_
  refine jw_aload_n C dJx4a65c_remove_915e3_9 rfl (hl.at 0 rfl) ?_
  obtain ⟨v3, h3, hf⟩ := jm_rd_ok hf
  refine jw_gR (Cn := RJx4a65c) (T := TJx4a65c) (N := 3) C hJ h3 rfl inJx4a65c_remove_915e3_Jx4a65c (by decide) (jm_w C 2 rfl) (fun _ h => h) dJx4a65c_remove_915e3_10 ?_
  refine jw_astore_n C dJx4a65c_remove_915e3_13 rfl hl (by decide) rfl (fun ls hl => ?_)
  refine jw_aload_n C dJx4a65c_remove_915e3_14 rfl (hl.at 0 rfl) ?_
  refine lv_iload_n C.1 C.2.1 dJx4a65c_remove_915e3_15 rfl (hl.at 2 rfl) ?_
  obtain ⟨v4, h4, hf⟩ := jm_rd_ok hf
  refine jw_aaload C hJ h4 (by decide) rfl dJx4a65c_remove_915e3_16 ?_
  refine jw_astore_n C dJx4a65c_remove_915e3_17 rfl hl (by decide) rfl (fun ls hl => ?_)
  refine jw_aload_n C dJx4a65c_remove_915e3_18 rfl (hl.at 2 rfl) ?_
  refine jw_aload_n C dJx4a65c_remove_915e3_19 rfl (hl.at 1 rfl) ?_
  refine lv_iload_n C.1 C.2.1 dJx4a65c_remove_915e3_20 rfl (hl.at 3 rfl) ?_
  obtain ⟨a5, o5, hf⟩ := jm_rd_ok hf
  obtain ⟨v5, S5, h5, hf⟩ := jm_bd_ok hf
  refine jw_cV (q := (RJx4a65c, TJx4a65c, 3)) C hJ hS o5 rfl (cJx4a65c_fastRemove_b59b0_C l G a5 v3 x1 h5) (cwV 2 C.2.2.2.2.1 gJx4a65c_remove_915e3_Jx4a65c_fastRemove_b59b0 rfl rfl rfl (by decide +kernel) ⟨Nat.le_of_ble_eq_true rfl, Nat.le_of_ble_eq_true rfl⟩) rfl hl.1 rfl (Nat.le_of_ble_eq_true rfl) dJx4a65c_remove_915e3_21 ⟨Nat.le_refl _, Nat.le_refl _⟩ (fun H locs hJ hS => ?_)
  refine jw_aload_n C dJx4a65c_remove_915e3_24 rfl (hl.at 0 rfl) ?_
  obtain ⟨rfl, rfl⟩ := jm_ret_ok hf
  exact jw_ra C (Or.inl ⟨_, rfl⟩) hJ hS (Nat.le_refl _) (Nat.le_refl _) dJx4a65c_remove_915e3_25
set_option maxHeartbeats 4000000 in
set_option maxRecDepth 100000 in
theorem cJx4a65c_remove_915e3_C (l : Launch) (G : jm_G) (h0 : Nat) (x1 : Int32) {S Sf : jm_S} {rv : (Option Nat)} (hf : fJx4a65c_remove_915e3 h0 x1 S = some (rv, Sf)) : Met l yJx4a65c_remove_915e3 wsJx4a65c_remove_915e3 ({ frames := 2, cells := 0, slots := 0, locals := 63 } : Room) (jm_Pc G S [.ref h0, .int x1]) (jm_Q G (some (va_rf rv)) Sf) 0 0 (jm_A G) := by
  refine va_MetF (cc := cJx4a65c_remove_915e3) (maxL := 4) (ret := (some (.object "java/lang/Object"))) (by decide +kernel) rfl ?_
  intro p e s m args below meth c s₁ B hml hv
  obtain ⟨rfl, hJ, hX⟩ := hv
  have C : jm_C G cJx4a65c_remove_915e3 4 RJx4a65c wsJx4a65c_remove_915e3 ((some (.object "java/lang/Object"))) p s m _ meth c := ⟨B.exec, B.bytes, hml, findClass_of_methodNamed B.named, atoms_spec (ws := wsJx4a65c_remove_915e3) B.pre, B.returns, B.notSynchronized, hX⟩
  obtain ⟨ls, he, hl⟩ := jm_entry m [.inr (some h0), .inl x1] (n := 4) (Nat.le_of_ble_eq_true rfl)
  have he : entryFrame m ([.ref h0, .int x1] : List Value).toArray 4 = F0 m 0 ls [] := he
  rw [he]
  exact kJx4a65c_remove_915e3 C h0 x1 hf hJ va_S.rf (hl.sub [0, 1] rfl)
/-! java/util/ArrayList.isEmpty -/
def fJx4a65c_isEmpty_aae02 (h0 : Nat) : jm_P Int32 := jm_rd (jm_gI (some h0) 0 2) fun v1 => (if v1 = 0 then jm_rd (jm_z 1) fun _ => jm_ret 1 else jm_rd (jm_z 0) fun _ => jm_ret 0)
theorem inJx4a65c_isEmpty_aae02_Jx4a65c : ∀ w ∈ wsJx4a65c0, w ∈ wsJx4a65c_isEmpty_aae02 := fun _ h => List.mem_cons_of_mem _ (List.mem_append_right _ h)
theorem moJx4a65c_isEmpty_aae02 (h0 : Nat) : jm_Mo (fJx4a65c_isEmpty_aae02 h0) := by
  unfold fJx4a65c_isEmpty_aae02
  exact jm_Mo_rd (fun _ => jm_Mo_if (jm_Mo_rd (fun _ => jm_Mo_ret _)) (jm_Mo_rd (fun _ => jm_Mo_ret _)))
set_option maxHeartbeats 4000000 in
set_option maxRecDepth 100000 in
theorem kJx4a65c_isEmpty_aae02 {rv : Int32} {Sf : jm_S} (C : jm_C G cJx4a65c_isEmpty_aae02 1 RJx4a65c wsJx4a65c_isEmpty_aae02 ((some .boolean)) p s m args meth c) : ∀ (h0 : Nat) {S : jm_S} {H : Heap} {locs : List Loc} {ls : Array Slot}, fJx4a65c_isEmpty_aae02 h0 S = some (rv, Sf) → jm_J G S H → va_S (jm_A G) s.heap H locs → jm_L ls 1 [(0, .inr (some h0))] → W p l e ({ frames := 0, cells := 0, slots := 0, locals := 0 } : Room) s m args below meth c H locs 0 0 (MQ below (jm_Q G (some (.int rv)) Sf) args s 0 0 (jm_A G)) (F0 m 0 ls []) := by
  intro h0 S H locs ls hf hJ hS hl
  unfold fJx4a65c_isEmpty_aae02 at hf
  refine jw_aload_n C dJx4a65c_isEmpty_aae02_0 rfl (hl.at 0 rfl) ?_
  obtain ⟨v1, h1, hf⟩ := jm_rd_ok hf
  refine jw_gI (Cn := RJx4a65c) (T := TJx4a65c) (N := 3) C hJ h1 rfl inJx4a65c_isEmpty_aae02_Jx4a65c (by decide) (jm_w C 1 rfl) (fun _ h => h) dJx4a65c_isEmpty_aae02_1 ?_
  refine lv_if_ne (tgt := 11) C.1 C.2.1 dJx4a65c_isEmpty_aae02_4 (by decide) (fun hq2 => ?_) (fun hq2 => ?_)
  · replace hf := jm_iff hf hq2
    refine lv_iconst (v := 0) C.1 C.2.1 dJx4a65c_isEmpty_aae02_11 (by decide) ?_
    obtain ⟨u3, z3, hf⟩ := jm_rd_ok hf
    obtain ⟨rfl, rfl⟩ := jm_ret_ok hf
    exact jw_rz C hJ hS z3 (Nat.le_refl _) (Nat.le_refl _) dJx4a65c_isEmpty_aae02_12
  · replace hf := jm_ift hf hq2
    refine lv_iconst (v := 1) C.1 C.2.1 dJx4a65c_isEmpty_aae02_7 (by decide) ?_
    refine lv_goto (tgt := 12) C.1 C.2.1 dJx4a65c_isEmpty_aae02_8 (by decide) ?_
    obtain ⟨u4, z4, hf⟩ := jm_rd_ok hf
    obtain ⟨rfl, rfl⟩ := jm_ret_ok hf
    exact jw_rz C hJ hS z4 (Nat.le_refl _) (Nat.le_refl _) dJx4a65c_isEmpty_aae02_12
set_option maxHeartbeats 4000000 in
set_option maxRecDepth 100000 in
theorem cJx4a65c_isEmpty_aae02_C (l : Launch) (G : jm_G) (h0 : Nat) {S Sf : jm_S} {rv : Int32} (hf : fJx4a65c_isEmpty_aae02 h0 S = some (rv, Sf)) : Met l yJx4a65c_isEmpty_aae02 wsJx4a65c_isEmpty_aae02 ({ frames := 0, cells := 0, slots := 0, locals := 0 } : Room) (jm_Pc G S [.ref h0]) (jm_Q G (some (.int rv)) Sf) 0 0 (jm_A G) := by
  refine va_MetF (cc := cJx4a65c_isEmpty_aae02) (maxL := 1) (ret := (some .boolean)) (by decide +kernel) rfl ?_
  intro p e s m args below meth c s₁ B hml hv
  obtain ⟨rfl, hJ, hX⟩ := hv
  have C : jm_C G cJx4a65c_isEmpty_aae02 1 RJx4a65c wsJx4a65c_isEmpty_aae02 ((some .boolean)) p s m _ meth c := ⟨B.exec, B.bytes, hml, findClass_of_methodNamed B.named, atoms_spec (ws := wsJx4a65c_isEmpty_aae02) B.pre, B.returns, B.notSynchronized, hX⟩
  obtain ⟨ls, he, hl⟩ := jm_entry m [.inr (some h0)] (n := 1) (Nat.le_of_ble_eq_true rfl)
  have he : entryFrame m ([.ref h0] : List Value).toArray 1 = F0 m 0 ls [] := he
  rw [he]
  exact kJx4a65c_isEmpty_aae02 C h0 hf hJ va_S.rf (hl.sub [0] rfl)
/-! jdk/internal/util/ArraysSupport.newLength -/
def fJ8_newLength_cabcc (x0 : Int32) (x1 : Int32) (x2 : Int32) : jm_P Int32 := (if (x0 + (if x1 < x2 then x2 else x1)) ≤ 0 then jm_no else (if 2147483639 < (x0 + (if x1 < x2 then x2 else x1)) then jm_no else jm_ret (x0 + (if x1 < x2 then x2 else x1))))
theorem moJ8_newLength_cabcc (x0 : Int32) (x1 : Int32) (x2 : Int32) : jm_Mo (fJ8_newLength_cabcc x0 x1 x2) := by
  unfold fJ8_newLength_cabcc
  exact jm_Mo_if (jm_Mo_no) (jm_Mo_if (jm_Mo_no) (jm_Mo_ret _))
set_option maxHeartbeats 4000000 in
set_option maxRecDepth 100000 in
theorem kJ8_newLength_cabcc {rv : Int32} {Sf : jm_S} (C : jm_C G cJ8_newLength_cabcc 4 RJ8 wsJ8_newLength_cabcc ((some .int)) p s m args meth c) : ∀ (x0 : Int32) (x1 : Int32) (x2 : Int32) {S : jm_S} {H : Heap} {locs : List Loc} {ls : Array Slot}, fJ8_newLength_cabcc x0 x1 x2 S = some (rv, Sf) → jm_J G S H → va_S (jm_A G) s.heap H locs → jm_L ls 4 [(0, .inl x0), (1, .inl x1), (2, .inl x2)] → W p l e ({ frames := 1, cells := 0, slots := 0, locals := 21 } : Room) s m args below meth c H locs 0 0 (MQ below (jm_Q G (some (.int rv)) Sf) args s 0 0 (jm_A G)) (F0 m 0 ls []) := by
  intro x0 x1 x2 S H locs ls hf hJ hS hl
  unfold fJ8_newLength_cabcc at hf
  refine lv_iload_n C.1 C.2.1 dJ8_newLength_cabcc_0 rfl (hl.at 0 rfl) ?_
  refine lv_iload_n C.1 C.2.1 dJ8_newLength_cabcc_1 rfl (hl.at 1 rfl) ?_
  refine lv_iload_n C.1 C.2.1 dJ8_newLength_cabcc_2 rfl (hl.at 2 rfl) ?_
  refine va_mmax C.1 C.2.1 (by rw [C.2.2.1]; exact hl.1.symm) C.2.2.2.1 (jm_w C 1 rfl) (jm_w C 2 rfl) (jm_w C 3 rfl) (jm_w C 4 rfl) (Nat.le_of_ble_eq_true rfl) (jm_w8r _ (Nat.le_of_ble_eq_true rfl) (Nat.le_of_ble_eq_true rfl)) (Nat.le_refl _) (Nat.le_refl _) dJ8_newLength_cabcc_3 ?_
  refine lv_iadd C.1 C.2.1 dJ8_newLength_cabcc_6 ?_
  refine jw_istore_n C dJ8_newLength_cabcc_7 rfl hl (by decide) rfl (fun ls hl => ?_)
  refine lv_iconst (v := 0) C.1 C.2.1 dJ8_newLength_cabcc_8 (by decide) ?_
  refine lv_iload_n C.1 C.2.1 dJ8_newLength_cabcc_9 rfl (hl.at 0 rfl) ?_
  refine lv_icmp_ge (tgt := 21) C.1 C.2.1 dJ8_newLength_cabcc_10 (by decide) (fun hq2 => ?_) (fun hq2 => ?_)
  · replace hf := jm_ift hf hq2
    refine lv_iload_n C.1 C.2.1 dJ8_newLength_cabcc_21 rfl (hl.at 1 rfl) ?_
    refine lv_iload_n C.1 C.2.1 dJ8_newLength_cabcc_22 rfl (hl.at 2 rfl) ?_
    exact absurd hf (fun h => jm_no_ok h)
  · replace hf := jm_iff hf hq2
    refine lv_iload_n C.1 C.2.1 dJ8_newLength_cabcc_13 rfl (hl.at 0 rfl) ?_
    refine lv_ldc (v := 2147483639) C.1 C.2.1 C.2.2.2.1 (jm_w C 5 rfl) dJ8_newLength_cabcc_14 ?_
    refine lv_icmp_gt (tgt := 21) C.1 C.2.1 dJ8_newLength_cabcc_16 (by decide) (fun hq4 => ?_) (fun hq4 => ?_)
    · replace hf := jm_ift hf hq4
      refine lv_iload_n C.1 C.2.1 dJ8_newLength_cabcc_21 rfl (hl.at 1 rfl) ?_
      refine lv_iload_n C.1 C.2.1 dJ8_newLength_cabcc_22 rfl (hl.at 2 rfl) ?_
      exact absurd hf (fun h => jm_no_ok h)
    · replace hf := jm_iff hf hq4
      refine lv_iload_n C.1 C.2.1 dJ8_newLength_cabcc_19 rfl (hl.at 0 rfl) ?_
      obtain ⟨rfl, rfl⟩ := jm_ret_ok hf
      exact jw_ri C hJ hS (Nat.le_refl _) (Nat.le_refl _) dJ8_newLength_cabcc_20
set_option maxHeartbeats 4000000 in
set_option maxRecDepth 100000 in
theorem cJ8_newLength_cabcc_C (l : Launch) (G : jm_G) (x0 : Int32) (x1 : Int32) (x2 : Int32) {S Sf : jm_S} {rv : Int32} (hf : fJ8_newLength_cabcc x0 x1 x2 S = some (rv, Sf)) : Met l yJ8_newLength_cabcc wsJ8_newLength_cabcc ({ frames := 1, cells := 0, slots := 0, locals := 21 } : Room) (jm_Pc G S [.int x0, .int x1, .int x2]) (jm_Q G (some (.int rv)) Sf) 0 0 (jm_A G) := by
  refine va_MetF (cc := cJ8_newLength_cabcc) (maxL := 4) (ret := (some .int)) (by decide +kernel) rfl ?_
  intro p e s m args below meth c s₁ B hml hv
  obtain ⟨rfl, hJ, hX⟩ := hv
  have C : jm_C G cJ8_newLength_cabcc 4 RJ8 wsJ8_newLength_cabcc ((some .int)) p s m _ meth c := ⟨B.exec, B.bytes, hml, findClass_of_methodNamed B.named, atoms_spec (ws := wsJ8_newLength_cabcc) B.pre, B.returns, B.notSynchronized, hX⟩
  obtain ⟨ls, he, hl⟩ := jm_entry m [.inl x0, .inl x1, .inl x2] (n := 4) (Nat.le_of_ble_eq_true rfl)
  have he : entryFrame m ([.int x0, .int x1, .int x2] : List Value).toArray 4 = F0 m 0 ls [] := he
  rw [he]
  exact kJ8_newLength_cabcc C x0 x1 x2 hf hJ va_S.rf (hl.sub [0, 1, 2] rfl)
/-! java/util/Arrays.copyOf -/
def fJ7_copyOf_6403c (x0 : Option Nat) (x1 : Int32) : jm_P (Option Nat) := jm_bd (jm_nq 5 x1) fun q2 => jm_rd (jm_lq x0 5) fun v3 => jm_wr (jm_cp x0 0 q2 0 (if x1 < v3 then x1 else v3)) <| jm_ret q2
theorem moJ7_copyOf_6403c (x0 : Option Nat) (x1 : Int32) : jm_Mo (fJ7_copyOf_6403c x0 x1) := by
  unfold fJ7_copyOf_6403c
  exact jm_Mo_bd jm_Mo_nq (fun _ => jm_Mo_rd (fun _ => jm_Mo_wr jm_cp_st (jm_Mo_ret _)))
set_option maxHeartbeats 4000000 in
set_option maxRecDepth 100000 in
theorem kJ7_copyOf_6403c {rv : (Option Nat)} {Sf : jm_S} (C : jm_C G cJ7_copyOf_6403c 4 RJ7 wsJ7_copyOf_6403c ((some (.array (.object "java/lang/Object")))) p s m args meth c) {n0 m0 mc ms : Nat} (hr1 : Sf.2.1 ≤ n0 + mc) (hr2 : Sf.2.2.1 ≤ m0 + ms) : ∀ (x0 : Option Nat) (x1 : Int32) {S : jm_S} {H : Heap} {locs : List Loc} {ls : Array Slot} {cells slots : Nat}, fJ7_copyOf_6403c x0 x1 S = some (rv, Sf) → jm_J G S H → va_S (jm_A G) s.heap H locs → jm_L ls 4 [(0, .inr x0), (1, .inl x1), (2, .inr (some G.2.2.2.1))] → cells + n0 ≤ S.2.1 → slots + m0 ≤ S.2.2.1 → W p l e ({ frames := 1, cells := mc, slots := ms, locals := 40 } : Room) s m args below meth c H locs cells slots (MQ below (jm_Q G (some (va_rf rv)) Sf) args s mc ms (jm_A G)) (F0 m 0 ls []) := by
  intro x0 x1 S H locs ls cells slots hf hJ hS hl hc1 hc2
  unfold fJ7_copyOf_6403c at hf
  refine jw_aload_n C dJ7_copyOf_6403c_0 rfl (hl.at 2 rfl) ?_
  refine jw_ldcM C (jm_w C 1 rfl) dJ7_copyOf_6403c_1 ?_
  refine lv_acmp_ne (rx := some G.2.2.2.1) (ry := some G.2.2.2.1) (tgt := 13) C.1 C.2.1 dJ7_copyOf_6403c_3 (by decide) (fun hc => absurd rfl hc) (fun _ => ?_)
  refine lv_iload_n C.1 C.2.1 dJ7_copyOf_6403c_6 rfl (hl.at 1 rfl) ?_
  obtain ⟨q2, S2, h2, hf⟩ := jm_bd_ok hf
  have e2 := jm_nq_st h2
  have g2 := jm_mo hf (jm_Mo_rd (fun _ => jm_Mo_wr jm_cp_st (jm_Mo_ret _)))
  refine jw_nq C hJ hS h2 (jm_w C 2 rfl) C.2.2.2.2.2.2.2.2.2.2.2.1.2.2.2 rfl (by show cells + 1 ≤ mc; omega) (by show slots + _ ≤ ms; omega) dJ7_copyOf_6403c_7 (fun H hJ hS => ?_)
  replace hc1 : cells + 1 + n0 ≤ S2.2.1 := by omega
  replace hc2 : slots + (x1 : Int32).toNatClampNeg + m0 ≤ S2.2.2.1 := by omega
  generalize cells + 1 = cells at hc1 ⊢
  generalize slots + (x1 : Int32).toNatClampNeg = slots at hc2 ⊢
  refine lv_goto (tgt := 24) C.1 C.2.1 dJ7_copyOf_6403c_10 (by decide) ?_
  refine jw_astore_n C dJ7_copyOf_6403c_24 rfl hl (by decide) rfl (fun ls hl => ?_)
  refine jw_aload_n C dJ7_copyOf_6403c_25 rfl (hl.at 1 rfl) ?_
  refine lv_iconst (v := 0) C.1 C.2.1 dJ7_copyOf_6403c_26 (by decide) ?_
  refine jw_aload_n C dJ7_copyOf_6403c_27 rfl (hl.at 0 rfl) ?_
  refine lv_iconst (v := 0) C.1 C.2.1 dJ7_copyOf_6403c_28 (by decide) ?_
  refine jw_aload_n C dJ7_copyOf_6403c_29 rfl (hl.at 1 rfl) ?_
  obtain ⟨v3, h3, hf⟩ := jm_rd_ok hf
  refine jw_lq C hJ hS h3 (by decide) rfl dJ7_copyOf_6403c_30 ?_
  refine lv_iload_n C.1 C.2.1 dJ7_copyOf_6403c_31 rfl (hl.at 2 rfl) ?_
  have g4 := jm_mo hf (jm_Mo_wr jm_cp_st (jm_Mo_ret _))
  refine va_mmin C.1 C.2.1 (by rw [C.2.2.1]; exact hl.1.symm) C.2.2.2.1 (jm_w C 3 rfl) (jm_w C 4 rfl) (jm_w C 5 rfl) (jm_w C 6 rfl) (Nat.le_of_ble_eq_true rfl) (jm_w8r _ (Nat.le_of_ble_eq_true rfl) (Nat.le_of_ble_eq_true rfl)) (by show cells ≤ mc; omega) (by show slots ≤ ms; omega) dJ7_copyOf_6403c_32 ?_
  obtain ⟨S5, h5, hf⟩ := jm_wr_ok hf
  have e5 := jm_cp_st _ _ h5
  rw [← e5] at hc1 hc2
  refine jw_cp C hJ hS h5 hl.1 (jm_w C 7 rfl) (jm_w C 8 rfl) (jm_w C 9 rfl) (jm_w C 10 rfl) (Nat.le_of_ble_eq_true rfl) (jm_w8s _ (Nat.le_of_ble_eq_true rfl) (Nat.le_of_ble_eq_true (by rfl))) dJ7_copyOf_6403c_35 (fun H locs hJ hS => ?_)
  refine jw_aload_n C dJ7_copyOf_6403c_38 rfl (hl.at 0 rfl) ?_
  obtain ⟨rfl, rfl⟩ := jm_ret_ok hf
  exact jw_ra C (Or.inr ⟨_, rfl⟩) hJ hS (by omega) (by omega) dJ7_copyOf_6403c_39
set_option maxHeartbeats 4000000 in
set_option maxRecDepth 100000 in
theorem cJ7_copyOf_6403c_C (l : Launch) (G : jm_G) (x0 : Option Nat) (x1 : Int32) {S Sf : jm_S} {rv : (Option Nat)} (hf : fJ7_copyOf_6403c x0 x1 S = some (rv, Sf)) (mc ms : Nat) (hr1 : Sf.2.1 ≤ S.2.1 + mc) (hr2 : Sf.2.2.1 ≤ S.2.2.1 + ms) : Met l yJ7_copyOf_6403c wsJ7_copyOf_6403c ({ frames := 1, cells := mc, slots := ms, locals := 40 } : Room) (jm_Pc G S [va_rf x0, .int x1, va_rf (some G.2.2.2.1)]) (jm_Q G (some (va_rf rv)) Sf) mc ms (jm_A G) := by
  refine va_MetF (cc := cJ7_copyOf_6403c) (maxL := 4) (ret := (some (.array (.object "java/lang/Object")))) (by decide +kernel) rfl ?_
  intro p e s m args below meth c s₁ B hml hv
  obtain ⟨rfl, hJ, hX⟩ := hv
  have C : jm_C G cJ7_copyOf_6403c 4 RJ7 wsJ7_copyOf_6403c ((some (.array (.object "java/lang/Object")))) p s m _ meth c := ⟨B.exec, B.bytes, hml, findClass_of_methodNamed B.named, atoms_spec (ws := wsJ7_copyOf_6403c) B.pre, B.returns, B.notSynchronized, hX⟩
  obtain ⟨ls, he, hl⟩ := jm_entry m [.inr x0, .inl x1, .inr (some G.2.2.2.1)] (n := 4) (Nat.le_of_ble_eq_true rfl)
  have he : entryFrame m ([va_rf x0, .int x1, va_rf (some G.2.2.2.1)] : List Value).toArray 4 = F0 m 0 ls [] := he
  rw [he]
  exact kJ7_copyOf_6403c C (n0 := S.2.1) (m0 := S.2.2.1) hr1 hr2 x0 x1 hf hJ va_S.rf (hl.sub [0, 1, 2] rfl) (by omega) (by omega)
/-! java/util/Arrays.copyOf -/
def fJ7_copyOf_1904c (x0 : Option Nat) (x1 : Int32) : jm_P (Option Nat) := jm_rd (jm_gc x0) fun _ => jm_bd (fJ7_copyOf_6403c x0 x1) fun v2 => jm_ret v2
theorem moJ7_copyOf_1904c (x0 : Option Nat) (x1 : Int32) : jm_Mo (fJ7_copyOf_1904c x0 x1) := by
  unfold fJ7_copyOf_1904c
  exact jm_Mo_rd (fun _ => jm_Mo_bd (moJ7_copyOf_6403c _ _) (fun _ => jm_Mo_ret _))
set_option maxHeartbeats 4000000 in
set_option maxRecDepth 100000 in
theorem kJ7_copyOf_1904c {rv : (Option Nat)} {Sf : jm_S} (C : jm_C G cJ7_copyOf_1904c 2 RJ7 wsJ7_copyOf_1904c ((some (.array (.object "java/lang/Object")))) p s m args meth c) {n0 m0 mc ms : Nat} (hr1 : Sf.2.1 ≤ n0 + mc) (hr2 : Sf.2.2.1 ≤ m0 + ms) : ∀ (x0 : Option Nat) (x1 : Int32) {S : jm_S} {H : Heap} {locs : List Loc} {ls : Array Slot} {cells slots : Nat}, fJ7_copyOf_1904c x0 x1 S = some (rv, Sf) → jm_J G S H → va_S (jm_A G) s.heap H locs → jm_L ls 2 [(0, .inr x0), (1, .inl x1)] → cells + n0 ≤ S.2.1 → slots + m0 ≤ S.2.2.1 → W p l e ({ frames := 2, cells := mc, slots := ms, locals := 63 } : Room) s m args below meth c H locs cells slots (MQ below (jm_Q G (some (va_rf rv)) Sf) args s mc ms (jm_A G)) (F0 m 0 ls []) := by
  intro x0 x1 S H locs ls cells slots hf hJ hS hl hc1 hc2
  unfold fJ7_copyOf_1904c at hf
  refine jw_aload_n C dJ7_copyOf_1904c_0 rfl (hl.at 0 rfl) ?_
  refine lv_iload_n C.1 C.2.1 dJ7_copyOf_1904c_1 rfl (hl.at 1 rfl) ?_
  refine jw_aload_n C dJ7_copyOf_1904c_2 rfl (hl.at 0 rfl) ?_
  obtain ⟨u1, h1, hf⟩ := jm_rd_ok hf
  refine jw_gc C hJ h1 hl.1 (jm_w C 1 rfl) (jm_w C 2 rfl) (jm_w C 3 rfl) (jm_w C 4 rfl) (Nat.le_of_ble_eq_true rfl) (jm_w8t _ (Nat.le_of_ble_eq_true rfl) (Nat.le_of_ble_eq_true rfl)) dJ7_copyOf_1904c_3 ?_
  obtain ⟨v2, S2, h2, hf⟩ := jm_bd_ok hf
  have e2 := moJ7_copyOf_6403c x0 x1 _ _ _ h2
  have g2 := jm_mo hf (jm_Mo_ret _)
  refine jw_cS C hJ hS (cJ7_copyOf_6403c_C l G x0 x1 h2 (S2.2.1 - S.2.1) (S2.2.2.1 - S.2.2.1) (by omega) (by omega)) (va_cwS 3 C.2.2.2.2.1 gJ7_copyOf_1904c_J7_copyOf_6403c rfl rfl rfl (by decide +kernel) ⟨Nat.le_of_ble_eq_true rfl, Nat.le_of_ble_eq_true rfl⟩) rfl hl.1 rfl (Nat.le_of_ble_eq_true rfl) dJ7_copyOf_1904c_6 ⟨by show cells + _ ≤ mc; omega, by show slots + _ ≤ ms; omega⟩ (fun H locs hJ hS => ?_)
  replace hc1 : cells + (S2.2.1 - S.2.1) + n0 ≤ S2.2.1 := by omega
  replace hc2 : slots + (S2.2.2.1 - S.2.2.1) + m0 ≤ S2.2.2.1 := by omega
  generalize cells + (S2.2.1 - S.2.1) = cells at hc1 ⊢
  generalize slots + (S2.2.2.1 - S.2.2.1) = slots at hc2 ⊢
  obtain ⟨rfl, rfl⟩ := jm_ret_ok hf
  exact jw_ra C (Or.inr ⟨_, rfl⟩) hJ hS (by omega) (by omega) dJ7_copyOf_1904c_9
set_option maxHeartbeats 4000000 in
set_option maxRecDepth 100000 in
theorem cJ7_copyOf_1904c_C (l : Launch) (G : jm_G) (x0 : Option Nat) (x1 : Int32) {S Sf : jm_S} {rv : (Option Nat)} (hf : fJ7_copyOf_1904c x0 x1 S = some (rv, Sf)) (mc ms : Nat) (hr1 : Sf.2.1 ≤ S.2.1 + mc) (hr2 : Sf.2.2.1 ≤ S.2.2.1 + ms) : Met l yJ7_copyOf_1904c wsJ7_copyOf_1904c ({ frames := 2, cells := mc, slots := ms, locals := 63 } : Room) (jm_Pc G S [va_rf x0, .int x1]) (jm_Q G (some (va_rf rv)) Sf) mc ms (jm_A G) := by
  refine va_MetF (cc := cJ7_copyOf_1904c) (maxL := 2) (ret := (some (.array (.object "java/lang/Object")))) (by decide +kernel) rfl ?_
  intro p e s m args below meth c s₁ B hml hv
  obtain ⟨rfl, hJ, hX⟩ := hv
  have C : jm_C G cJ7_copyOf_1904c 2 RJ7 wsJ7_copyOf_1904c ((some (.array (.object "java/lang/Object")))) p s m _ meth c := ⟨B.exec, B.bytes, hml, findClass_of_methodNamed B.named, atoms_spec (ws := wsJ7_copyOf_1904c) B.pre, B.returns, B.notSynchronized, hX⟩
  obtain ⟨ls, he, hl⟩ := jm_entry m [.inr x0, .inl x1] (n := 2) (Nat.le_of_ble_eq_true rfl)
  have he : entryFrame m ([va_rf x0, .int x1] : List Value).toArray 2 = F0 m 0 ls [] := he
  rw [he]
  exact kJ7_copyOf_1904c C (n0 := S.2.1) (m0 := S.2.2.1) hr1 hr2 x0 x1 hf hJ va_S.rf (hl.sub [0, 1] rfl) (by omega) (by omega)
/-! java/util/ArrayList.grow -/
def fJx4a65c_grow_92f84_20 (h0 : Nat) (x1 : Int32) (x2 : Int32) : jm_P (Option Nat) := jm_bd (fJ8_newLength_cabcc x2 (x1 - x2) (x2 >>> (1 &&& 31))) fun v4 => jm_rd (jm_gR (some h0) 0 1) fun v5 => jm_bd (fJ7_copyOf_1904c v5 v4) fun v6 => jm_wr (jm_p (some h0) 0 1 (.inr v6)) <| jm_ret v6
def fJx4a65c_grow_92f84 (h0 : Nat) (x1 : Int32) : jm_P (Option Nat) := jm_rd (jm_gR (some h0) 0 1) fun v1 => jm_rd (jm_lq v1 5) fun v2 => (if 0 < v2 then fJx4a65c_grow_92f84_20 h0 x1 v2 else jm_rd (jm_gR (some h0) 0 1) fun v8 => jm_rd jm_t0 fun v9 => (if v8 = v9 then jm_bd (jm_nq 5 (if 10 < x1 then x1 else 10)) fun q12 => jm_wr (jm_p (some h0) 0 1 (.inr q12)) <| jm_ret q12 else fJx4a65c_grow_92f84_20 h0 x1 v2))
theorem inJx4a65c_grow_92f84_Jx4a65c : ∀ w ∈ wsJx4a65c0, w ∈ wsJx4a65c_grow_92f84 := fun _ h => List.mem_cons_of_mem _ (List.mem_append_right _ h)
theorem moJx4a65c_grow_92f84_20 (h0 : Nat) (x1 : Int32) (x2 : Int32) : jm_Mo (fJx4a65c_grow_92f84_20 h0 x1 x2) := by
  unfold fJx4a65c_grow_92f84_20
  exact jm_Mo_bd (moJ8_newLength_cabcc _ _ _) (fun _ => jm_Mo_rd (fun _ => jm_Mo_bd (moJ7_copyOf_1904c _ _) (fun _ => jm_Mo_wr jm_p_st (jm_Mo_ret _))))
set_option maxHeartbeats 4000000 in
set_option maxRecDepth 100000 in
theorem kJx4a65c_grow_92f84_20 {rv : (Option Nat)} {Sf : jm_S} (C : jm_C G cJx4a65c_grow_92f84 4 RJx4a65c wsJx4a65c_grow_92f84 ((some (.array (.object "java/lang/Object")))) p s m args meth c) {n0 m0 mc ms : Nat} (hr1 : Sf.2.1 ≤ n0 + mc) (hr2 : Sf.2.2.1 ≤ m0 + ms) : ∀ (h0 : Nat) (x1 : Int32) (x2 : Int32) {S : jm_S} {H : Heap} {locs : List Loc} {ls : Array Slot} {cells slots : Nat}, fJx4a65c_grow_92f84_20 h0 x1 x2 S = some (rv, Sf) → jm_J G S H → va_S (jm_A G) s.heap H locs → jm_L ls 4 [(0, .inr (some h0)), (1, .inl x1), (2, .inl x2)] → cells + n0 ≤ S.2.1 → slots + m0 ≤ S.2.2.1 → W p l e ({ frames := 3, cells := mc, slots := ms, locals := 84 } : Room) s m args below meth c H locs cells slots (MQ below (jm_Q G (some (va_rf rv)) Sf) args s mc ms (jm_A G)) (F0 m 20 ls []) := by
  intro h0 x1 x2 S H locs ls cells slots hf hJ hS hl hc1 hc2
  unfold fJx4a65c_grow_92f84_20 at hf
  refine lv_iload_n C.1 C.2.1 dJx4a65c_grow_92f84_20 rfl (hl.at 2 rfl) ?_
  refine lv_iload_n C.1 C.2.1 dJx4a65c_grow_92f84_21 rfl (hl.at 1 rfl) ?_
  refine lv_iload_n C.1 C.2.1 dJx4a65c_grow_92f84_22 rfl (hl.at 2 rfl) ?_
  refine lv_isub C.1 C.2.1 dJx4a65c_grow_92f84_23 ?_
  refine lv_iload_n C.1 C.2.1 dJx4a65c_grow_92f84_24 rfl (hl.at 2 rfl) ?_
  refine lv_iconst (v := 1) C.1 C.2.1 dJx4a65c_grow_92f84_25 (by decide) ?_
  refine lv_ishr C.1 C.2.1 dJx4a65c_grow_92f84_26 ?_
  obtain ⟨v4, S4, h4, hf⟩ := jm_bd_ok hf
  have e4 := moJ8_newLength_cabcc x2 (x1 - x2) (x2 >>> (1 &&& 31)) _ _ _ h4
  have g4 := jm_mo hf (jm_Mo_rd (fun _ => jm_Mo_bd (moJ7_copyOf_1904c _ _) (fun _ => jm_Mo_wr jm_p_st (jm_Mo_ret _))))
  refine jw_cS C hJ hS (cJ8_newLength_cabcc_C l G x2 (x1 - x2) (x2 >>> (1 &&& 31)) h4) (va_cwS 3 C.2.2.2.2.1 gJx4a65c_grow_92f84_J8_newLength_cabcc rfl rfl rfl (by decide +kernel) ⟨Nat.le_of_ble_eq_true rfl, Nat.le_of_ble_eq_true rfl⟩) rfl hl.1 rfl (Nat.le_of_ble_eq_true rfl) dJx4a65c_grow_92f84_27 ⟨by show cells + 0 ≤ mc; omega, by show slots + 0 ≤ ms; omega⟩ (fun H locs hJ hS => ?_)
  replace hc1 : cells + 0 + n0 ≤ S4.2.1 := by omega
  replace hc2 : slots + 0 + m0 ≤ S4.2.2.1 := by omega
  generalize cells + 0 = cells at hc1 ⊢
  generalize slots + 0 = slots at hc2 ⊢
  refine jw_istore_n C dJx4a65c_grow_92f84_30 rfl hl (by decide) rfl (fun ls hl => ?_)
  refine jw_aload_n C dJx4a65c_grow_92f84_31 rfl (hl.at 1 rfl) ?_
  refine jw_aload_n C dJx4a65c_grow_92f84_32 rfl (hl.at 1 rfl) ?_
  obtain ⟨v5, h5, hf⟩ := jm_rd_ok hf
  refine jw_gR (Cn := RJx4a65c) (T := TJx4a65c) (N := 3) C hJ h5 rfl inJx4a65c_grow_92f84_Jx4a65c (by decide) (jm_w C 1 rfl) (fun _ h => h) dJx4a65c_grow_92f84_33 ?_
  refine lv_iload_n C.1 C.2.1 dJx4a65c_grow_92f84_36 rfl (hl.at 0 rfl) ?_
  obtain ⟨v6, S6, h6, hf⟩ := jm_bd_ok hf
  have e6 := moJ7_copyOf_1904c v5 v4 _ _ _ h6
  have g6 := jm_mo hf (jm_Mo_wr jm_p_st (jm_Mo_ret _))
  refine jw_cS C hJ hS (cJ7_copyOf_1904c_C l G v5 v4 h6 (S6.2.1 - S4.2.1) (S6.2.2.1 - S4.2.2.1) (by omega) (by omega)) (va_cwS 2 C.2.2.2.2.1 gJx4a65c_grow_92f84_J7_copyOf_1904c rfl rfl rfl (by decide +kernel) ⟨Nat.le_of_ble_eq_true rfl, Nat.le_of_ble_eq_true rfl⟩) rfl hl.1 rfl (Nat.le_of_ble_eq_true rfl) dJx4a65c_grow_92f84_37 ⟨by show cells + _ ≤ mc; omega, by show slots + _ ≤ ms; omega⟩ (fun H locs hJ hS => ?_)
  replace hc1 : cells + (S6.2.1 - S4.2.1) + n0 ≤ S6.2.1 := by omega
  replace hc2 : slots + (S6.2.2.1 - S4.2.2.1) + m0 ≤ S6.2.2.1 := by omega
  generalize cells + (S6.2.1 - S4.2.1) = cells at hc1 ⊢
  generalize slots + (S6.2.2.1 - S4.2.2.1) = slots at hc2 ⊢
  refine lv_dup_x1 C.1 C.2.1 dJx4a65c_grow_92f84_40 (jm_catr _) (jm_catr _) ?_
  obtain ⟨S7, h7, hf⟩ := jm_wr_ok hf
  have e7 := jm_p_st _ _ h7
  rw [← e7] at hc1 hc2
  refine jw_p (x := .inr v6) (ty := (.array (.object "java/lang/Object"))) (Cn := RJx4a65c) (T := TJx4a65c) (N := 3) C hJ hS h7 rfl inJx4a65c_grow_92f84_Jx4a65c tyJx4a65c tyJx4a65c_ok nmJx4a65c (by decide) (jm_w C 1 rfl) (fun _ h => h) rfl (by decide +kernel) (jm_nra _ v6).1 (jm_nra _ v6).2 dJx4a65c_grow_92f84_41 (fun H locs hJ hS => ?_)
  obtain ⟨rfl, rfl⟩ := jm_ret_ok hf
  exact jw_ra C (Or.inr ⟨_, rfl⟩) hJ hS (by omega) (by omega) dJx4a65c_grow_92f84_44
theorem moJx4a65c_grow_92f84 (h0 : Nat) (x1 : Int32) : jm_Mo (fJx4a65c_grow_92f84 h0 x1) := by
  unfold fJx4a65c_grow_92f84
  exact jm_Mo_rd (fun _ => jm_Mo_rd (fun _ => jm_Mo_if (moJx4a65c_grow_92f84_20 _ _ _) (jm_Mo_rd (fun _ => jm_Mo_rd (fun _ => jm_Mo_if (jm_Mo_bd jm_Mo_nq (fun _ => jm_Mo_wr jm_p_st (jm_Mo_ret _))) (moJx4a65c_grow_92f84_20 _ _ _))))))
set_option maxHeartbeats 4000000 in
set_option maxRecDepth 100000 in
theorem kJx4a65c_grow_92f84 {rv : (Option Nat)} {Sf : jm_S} (C : jm_C G cJx4a65c_grow_92f84 4 RJx4a65c wsJx4a65c_grow_92f84 ((some (.array (.object "java/lang/Object")))) p s m args meth c) {n0 m0 mc ms : Nat} (hr1 : Sf.2.1 ≤ n0 + mc) (hr2 : Sf.2.2.1 ≤ m0 + ms) : ∀ (h0 : Nat) (x1 : Int32) {S : jm_S} {H : Heap} {locs : List Loc} {ls : Array Slot} {cells slots : Nat}, fJx4a65c_grow_92f84 h0 x1 S = some (rv, Sf) → jm_J G S H → va_S (jm_A G) s.heap H locs → jm_L ls 4 [(0, .inr (some h0)), (1, .inl x1)] → cells + n0 ≤ S.2.1 → slots + m0 ≤ S.2.2.1 → W p l e ({ frames := 3, cells := mc, slots := ms, locals := 84 } : Room) s m args below meth c H locs cells slots (MQ below (jm_Q G (some (va_rf rv)) Sf) args s mc ms (jm_A G)) (F0 m 0 ls []) := by
  intro h0 x1 S H locs ls cells slots hf hJ hS hl hc1 hc2
  unfold fJx4a65c_grow_92f84 at hf
  refine jw_aload_n C dJx4a65c_grow_92f84_0 rfl (hl.at 0 rfl) ?_
  obtain ⟨v1, h1, hf⟩ := jm_rd_ok hf
  refine jw_gR (Cn := RJx4a65c) (T := TJx4a65c) (N := 3) C hJ h1 rfl inJx4a65c_grow_92f84_Jx4a65c (by decide) (jm_w C 1 rfl) (fun _ h => h) dJx4a65c_grow_92f84_1 ?_
  obtain ⟨v2, h2, hf⟩ := jm_rd_ok hf
  refine jw_lq C hJ hS h2 (by decide) rfl dJx4a65c_grow_92f84_4 ?_
  refine jw_istore_n C dJx4a65c_grow_92f84_5 rfl hl (by decide) rfl (fun ls hl => ?_)
  refine lv_iload_n C.1 C.2.1 dJx4a65c_grow_92f84_6 rfl (hl.at 0 rfl) ?_
  refine lv_if_gt (tgt := 20) C.1 C.2.1 dJx4a65c_grow_92f84_7 (by decide) (fun hq3 => ?_) (fun hq3 => ?_)
  · replace hf := jm_ift hf hq3
    exact kJx4a65c_grow_92f84_20 C hr1 hr2 h0 x1 v2 hf hJ hS (hl.sub [1, 2, 0] rfl) hc1 hc2
  · replace hf := jm_iff hf hq3
    refine jw_aload_n C dJx4a65c_grow_92f84_10 rfl (hl.at 1 rfl) ?_
    obtain ⟨v8, h8, hf⟩ := jm_rd_ok hf
    refine jw_gR (Cn := RJx4a65c) (T := TJx4a65c) (N := 3) C hJ h8 rfl inJx4a65c_grow_92f84_Jx4a65c (by decide) (jm_w C 1 rfl) (fun _ h => h) dJx4a65c_grow_92f84_11 ?_
    obtain ⟨v9, h9, hf⟩ := jm_rd_ok hf
    refine jw_t0 C hJ hS h9 (jm_w C 2 rfl) dJx4a65c_grow_92f84_14 ?_
    refine lv_acmp_eq (rx := v8) (ry := v9) (tgt := 45) C.1 C.2.1 dJx4a65c_grow_92f84_17 (by decide) (fun hq10 => ?_) (fun hq10 => ?_)
    · replace hf := jm_ift hf hq10
      refine jw_aload_n C dJx4a65c_grow_92f84_45 rfl (hl.at 1 rfl) ?_
      refine lv_bipush (v := 10) C.1 C.2.1 dJx4a65c_grow_92f84_46 (by decide) ?_
      refine lv_iload_n C.1 C.2.1 dJx4a65c_grow_92f84_48 rfl (hl.at 2 rfl) ?_
      have g11 := jm_mo hf (jm_Mo_bd jm_Mo_nq (fun _ => jm_Mo_wr jm_p_st (jm_Mo_ret _)))
      refine va_mmax C.1 C.2.1 (by rw [C.2.2.1]; exact hl.1.symm) C.2.2.2.1 (jm_w C 3 rfl) (jm_w C 4 rfl) (jm_w C 5 rfl) (jm_w C 6 rfl) (Nat.le_of_ble_eq_true rfl) (jm_w8r _ (Nat.le_of_ble_eq_true rfl) (Nat.le_of_ble_eq_true rfl)) (by show cells ≤ mc; omega) (by show slots ≤ ms; omega) dJx4a65c_grow_92f84_49 ?_
      obtain ⟨q12, S12, h12, hf⟩ := jm_bd_ok hf
      have e12 := jm_nq_st h12
      have g12 := jm_mo hf (jm_Mo_wr jm_p_st (jm_Mo_ret _))
      refine jw_nq C hJ hS h12 (jm_w C 7 rfl) C.2.2.2.2.2.2.2.2.2.2.2.1.2.2.2 rfl (by show cells + 1 ≤ mc; omega) (by show slots + _ ≤ ms; omega) dJx4a65c_grow_92f84_52 (fun H hJ hS => ?_)
      replace hc1 : cells + 1 + n0 ≤ S12.2.1 := by omega
      replace hc2 : slots + ((if 10 < x1 then x1 else 10) : Int32).toNatClampNeg + m0 ≤ S12.2.2.1 := by omega
      generalize cells + 1 = cells at hc1 ⊢
      generalize slots + ((if 10 < x1 then x1 else 10) : Int32).toNatClampNeg = slots at hc2 ⊢
      refine lv_dup_x1 C.1 C.2.1 dJx4a65c_grow_92f84_55 (jm_catr _) (jm_catr _) ?_
      obtain ⟨S13, h13, hf⟩ := jm_wr_ok hf
      have e13 := jm_p_st _ _ h13
      rw [← e13] at hc1 hc2
      refine jw_p (x := .inr q12) (ty := (.array (.object "java/lang/Object"))) (Cn := RJx4a65c) (T := TJx4a65c) (N := 3) C hJ hS h13 rfl inJx4a65c_grow_92f84_Jx4a65c tyJx4a65c tyJx4a65c_ok nmJx4a65c (by decide) (jm_w C 1 rfl) (fun _ h => h) rfl (by decide +kernel) (jm_nra _ q12).1 (jm_nra _ q12).2 dJx4a65c_grow_92f84_56 (fun H locs hJ hS => ?_)
      obtain ⟨rfl, rfl⟩ := jm_ret_ok hf
      exact jw_ra C (Or.inr ⟨_, rfl⟩) hJ hS (by omega) (by omega) dJx4a65c_grow_92f84_59
    · replace hf := jm_iff hf hq10
      exact kJx4a65c_grow_92f84_20 C hr1 hr2 h0 x1 v2 hf hJ hS (hl.sub [1, 2, 0] rfl) hc1 hc2
set_option maxHeartbeats 4000000 in
set_option maxRecDepth 100000 in
theorem cJx4a65c_grow_92f84_C (l : Launch) (G : jm_G) (h0 : Nat) (x1 : Int32) {S Sf : jm_S} {rv : (Option Nat)} (hf : fJx4a65c_grow_92f84 h0 x1 S = some (rv, Sf)) (mc ms : Nat) (hr1 : Sf.2.1 ≤ S.2.1 + mc) (hr2 : Sf.2.2.1 ≤ S.2.2.1 + ms) : Met l yJx4a65c_grow_92f84 wsJx4a65c_grow_92f84 ({ frames := 3, cells := mc, slots := ms, locals := 84 } : Room) (jm_Pc G S [.ref h0, .int x1]) (jm_Q G (some (va_rf rv)) Sf) mc ms (jm_A G) := by
  refine va_MetF (cc := cJx4a65c_grow_92f84) (maxL := 4) (ret := (some (.array (.object "java/lang/Object")))) (by decide +kernel) rfl ?_
  intro p e s m args below meth c s₁ B hml hv
  obtain ⟨rfl, hJ, hX⟩ := hv
  have C : jm_C G cJx4a65c_grow_92f84 4 RJx4a65c wsJx4a65c_grow_92f84 ((some (.array (.object "java/lang/Object")))) p s m _ meth c := ⟨B.exec, B.bytes, hml, findClass_of_methodNamed B.named, atoms_spec (ws := wsJx4a65c_grow_92f84) B.pre, B.returns, B.notSynchronized, hX⟩
  obtain ⟨ls, he, hl⟩ := jm_entry m [.inr (some h0), .inl x1] (n := 4) (Nat.le_of_ble_eq_true rfl)
  have he : entryFrame m ([.ref h0, .int x1] : List Value).toArray 4 = F0 m 0 ls [] := he
  rw [he]
  exact kJx4a65c_grow_92f84 C (n0 := S.2.1) (m0 := S.2.2.1) hr1 hr2 h0 x1 hf hJ va_S.rf (hl.sub [0, 1] rfl) (by omega) (by omega)
/-! java/util/ArrayList.grow -/
def fJx4a65c_grow_d5877 (h0 : Nat) : jm_P (Option Nat) := jm_rd (jm_gI (some h0) 0 2) fun v1 => jm_rd (jm_o (some h0) 0) fun a2 => jm_bd (fJx4a65c_grow_92f84 a2 (v1 + 1)) fun v2 => jm_ret v2
theorem inJx4a65c_grow_d5877_Jx4a65c : ∀ w ∈ wsJx4a65c0, w ∈ wsJx4a65c_grow_d5877 := fun _ h => List.mem_cons_of_mem _ (List.mem_append_right _ h)
theorem moJx4a65c_grow_d5877 (h0 : Nat) : jm_Mo (fJx4a65c_grow_d5877 h0) := by
  unfold fJx4a65c_grow_d5877
  exact jm_Mo_rd (fun _ => jm_Mo_rd (fun _ => jm_Mo_bd (moJx4a65c_grow_92f84 _ _) (fun _ => jm_Mo_ret _)))
set_option maxHeartbeats 4000000 in
set_option maxRecDepth 100000 in
theorem kJx4a65c_grow_d5877 {rv : (Option Nat)} {Sf : jm_S} (C : jm_C G cJx4a65c_grow_d5877 1 RJx4a65c wsJx4a65c_grow_d5877 ((some (.array (.object "java/lang/Object")))) p s m args meth c) {n0 m0 mc ms : Nat} (hr1 : Sf.2.1 ≤ n0 + mc) (hr2 : Sf.2.2.1 ≤ m0 + ms) : ∀ (h0 : Nat) {S : jm_S} {H : Heap} {locs : List Loc} {ls : Array Slot} {cells slots : Nat}, fJx4a65c_grow_d5877 h0 S = some (rv, Sf) → jm_J G S H → va_S (jm_A G) s.heap H locs → jm_L ls 1 [(0, .inr (some h0))] → cells + n0 ≤ S.2.1 → slots + m0 ≤ S.2.2.1 → W p l e ({ frames := 4, cells := mc, slots := ms, locals := 107 } : Room) s m args below meth c H locs cells slots (MQ below (jm_Q G (some (va_rf rv)) Sf) args s mc ms (jm_A G)) (F0 m 0 ls []) := by
  intro h0 S H locs ls cells slots hf hJ hS hl hc1 hc2
  unfold fJx4a65c_grow_d5877 at hf
  refine jw_aload_n C dJx4a65c_grow_d5877_0 rfl (hl.at 0 rfl) ?_
  refine jw_aload_n C dJx4a65c_grow_d5877_1 rfl (hl.at 0 rfl) ?_
  obtain ⟨v1, h1, hf⟩ := jm_rd_ok hf
  refine jw_gI (Cn := RJx4a65c) (T := TJx4a65c) (N := 3) C hJ h1 rfl inJx4a65c_grow_d5877_Jx4a65c (by decide) (jm_w C 1 rfl) (fun _ h => h) dJx4a65c_grow_d5877_2 ?_
  refine lv_iconst (v := 1) C.1 C.2.1 dJx4a65c_grow_d5877_5 (by decide) ?_
  refine lv_iadd C.1 C.2.1 dJx4a65c_grow_d5877_6 ?_
  obtain ⟨a2, o2, hf⟩ := jm_rd_ok hf
  obtain ⟨v2, S2, h2, hf⟩ := jm_bd_ok hf
  have e2 := moJx4a65c_grow_92f84 a2 (v1 + 1) _ _ _ h2
  have g2 := jm_mo hf (jm_Mo_ret _)
  refine jw_cV (q := (RJx4a65c, TJx4a65c, 3)) C hJ hS o2 rfl (cJx4a65c_grow_92f84_C l G a2 (v1 + 1) h2 (S2.2.1 - S.2.1) (S2.2.2.1 - S.2.2.1) (by omega) (by omega)) (cwV 1 C.2.2.2.2.1 gJx4a65c_grow_d5877_Jx4a65c_grow_92f84 rfl rfl rfl (by decide +kernel) ⟨Nat.le_of_ble_eq_true rfl, Nat.le_of_ble_eq_true rfl⟩) rfl hl.1 rfl (Nat.le_of_ble_eq_true rfl) dJx4a65c_grow_d5877_7 ⟨by show cells + _ ≤ mc; omega, by show slots + _ ≤ ms; omega⟩ (fun H locs hJ hS => ?_)
  replace hc1 : cells + (S2.2.1 - S.2.1) + n0 ≤ S2.2.1 := by omega
  replace hc2 : slots + (S2.2.2.1 - S.2.2.1) + m0 ≤ S2.2.2.1 := by omega
  generalize cells + (S2.2.1 - S.2.1) = cells at hc1 ⊢
  generalize slots + (S2.2.2.1 - S.2.2.1) = slots at hc2 ⊢
  obtain ⟨rfl, rfl⟩ := jm_ret_ok hf
  exact jw_ra C (Or.inr ⟨_, rfl⟩) hJ hS (by omega) (by omega) dJx4a65c_grow_d5877_10
set_option maxHeartbeats 4000000 in
set_option maxRecDepth 100000 in
theorem cJx4a65c_grow_d5877_C (l : Launch) (G : jm_G) (h0 : Nat) {S Sf : jm_S} {rv : (Option Nat)} (hf : fJx4a65c_grow_d5877 h0 S = some (rv, Sf)) (mc ms : Nat) (hr1 : Sf.2.1 ≤ S.2.1 + mc) (hr2 : Sf.2.2.1 ≤ S.2.2.1 + ms) : Met l yJx4a65c_grow_d5877 wsJx4a65c_grow_d5877 ({ frames := 4, cells := mc, slots := ms, locals := 107 } : Room) (jm_Pc G S [.ref h0]) (jm_Q G (some (va_rf rv)) Sf) mc ms (jm_A G) := by
  refine va_MetF (cc := cJx4a65c_grow_d5877) (maxL := 1) (ret := (some (.array (.object "java/lang/Object")))) (by decide +kernel) rfl ?_
  intro p e s m args below meth c s₁ B hml hv
  obtain ⟨rfl, hJ, hX⟩ := hv
  have C : jm_C G cJx4a65c_grow_d5877 1 RJx4a65c wsJx4a65c_grow_d5877 ((some (.array (.object "java/lang/Object")))) p s m _ meth c := ⟨B.exec, B.bytes, hml, findClass_of_methodNamed B.named, atoms_spec (ws := wsJx4a65c_grow_d5877) B.pre, B.returns, B.notSynchronized, hX⟩
  obtain ⟨ls, he, hl⟩ := jm_entry m [.inr (some h0)] (n := 1) (Nat.le_of_ble_eq_true rfl)
  have he : entryFrame m ([.ref h0] : List Value).toArray 1 = F0 m 0 ls [] := he
  rw [he]
  exact kJx4a65c_grow_d5877 C (n0 := S.2.1) (m0 := S.2.2.1) hr1 hr2 h0 hf hJ va_S.rf (hl.sub [0] rfl) (by omega) (by omega)
/-! java/util/ArrayList.add -/
def fJx4a65c_add_72be8_11 (h0 : Nat) (x1 : Option Nat) (x2 : Option Nat) (x3 : Int32) : jm_P Unit := jm_wr (jm_sq x2 5 x3 x1) <| jm_wr (jm_p (some h0) 0 2 (.inl (x3 + 1))) <| jm_ret ()
def fJx4a65c_add_72be8 (h0 : Nat) (x1 : Option Nat) (x2 : Option Nat) (x3 : Int32) : jm_P Unit := jm_rd (jm_lq x2 5) fun v1 => (if x3 = v1 then jm_rd (jm_o (some h0) 0) fun a5 => jm_bd (fJx4a65c_grow_d5877 a5) fun v5 => fJx4a65c_add_72be8_11 h0 x1 v5 x3 else fJx4a65c_add_72be8_11 h0 x1 x2 x3)
theorem inJx4a65c_add_72be8_Jx4a65c : ∀ w ∈ wsJx4a65c0, w ∈ wsJx4a65c_add_72be8 := fun _ h => List.mem_cons_of_mem _ (List.mem_append_right _ h)
theorem moJx4a65c_add_72be8_11 (h0 : Nat) (x1 : Option Nat) (x2 : Option Nat) (x3 : Int32) : jm_Mo (fJx4a65c_add_72be8_11 h0 x1 x2 x3) := by
  unfold fJx4a65c_add_72be8_11
  exact jm_Mo_wr jm_sq_st (jm_Mo_wr jm_p_st (jm_Mo_ret _))
set_option maxHeartbeats 4000000 in
set_option maxRecDepth 100000 in
theorem kJx4a65c_add_72be8_11 {rv : Unit} {Sf : jm_S} (C : jm_C G cJx4a65c_add_72be8 4 RJx4a65c wsJx4a65c_add_72be8 (none) p s m args meth c) {n0 m0 mc ms : Nat} (hr1 : Sf.2.1 ≤ n0 + mc) (hr2 : Sf.2.2.1 ≤ m0 + ms) : ∀ (h0 : Nat) (x1 : Option Nat) (x2 : Option Nat) (x3 : Int32) {S : jm_S} {H : Heap} {locs : List Loc} {ls : Array Slot} {cells slots : Nat}, fJx4a65c_add_72be8_11 h0 x1 x2 x3 S = some (rv, Sf) → jm_J G S H → va_S (jm_A G) s.heap H locs → jm_L ls 4 [(0, .inr (some h0)), (1, .inr x1), (2, .inr x2), (3, .inl x3)] → cells + n0 ≤ S.2.1 → slots + m0 ≤ S.2.2.1 → W p l e ({ frames := 5, cells := mc, slots := ms, locals := 127 } : Room) s m args below meth c H locs cells slots (MQ below (jm_Q G (none) Sf) args s mc ms (jm_A G)) (F0 m 11 ls []) := by
  intro h0 x1 x2 x3 S H locs ls cells slots hf hJ hS hl hc1 hc2
  unfold fJx4a65c_add_72be8_11 at hf
  refine jw_aload_n C dJx4a65c_add_72be8_11 rfl (hl.at 2 rfl) ?_
  refine lv_iload_n C.1 C.2.1 dJx4a65c_add_72be8_12 rfl (hl.at 3 rfl) ?_
  refine jw_aload_n C dJx4a65c_add_72be8_13 rfl (hl.at 1 rfl) ?_
  obtain ⟨S3, h3, hf⟩ := jm_wr_ok hf
  have e3 := jm_sq_st _ _ h3
  rw [← e3] at hc1 hc2
  refine jw_aastore C hJ hS h3 (by decide) rfl dJx4a65c_add_72be8_14 (fun H locs hJ hS => ?_)
  refine jw_aload_n C dJx4a65c_add_72be8_15 rfl (hl.at 0 rfl) ?_
  refine lv_iload_n C.1 C.2.1 dJx4a65c_add_72be8_16 rfl (hl.at 3 rfl) ?_
  refine lv_iconst (v := 1) C.1 C.2.1 dJx4a65c_add_72be8_17 (by decide) ?_
  refine lv_iadd C.1 C.2.1 dJx4a65c_add_72be8_18 ?_
  obtain ⟨S4, h4, hf⟩ := jm_wr_ok hf
  have e4 := jm_p_st _ _ h4
  rw [← e4] at hc1 hc2
  refine jw_p (x := .inl (x3 + 1)) (ty := .int) (Cn := RJx4a65c) (T := TJx4a65c) (N := 3) C hJ hS h4 rfl inJx4a65c_add_72be8_Jx4a65c tyJx4a65c tyJx4a65c_ok nmJx4a65c (by decide) (jm_w C 1 rfl) (fun _ h => h) rfl (by decide +kernel) rfl rfl dJx4a65c_add_72be8_19 (fun H locs hJ hS => ?_)
  obtain ⟨rfl, rfl⟩ := jm_ret_ok hf
  exact jw_rv C hJ hS (by omega) (by omega) dJx4a65c_add_72be8_22
theorem moJx4a65c_add_72be8 (h0 : Nat) (x1 : Option Nat) (x2 : Option Nat) (x3 : Int32) : jm_Mo (fJx4a65c_add_72be8 h0 x1 x2 x3) := by
  unfold fJx4a65c_add_72be8
  exact jm_Mo_rd (fun _ => jm_Mo_if (jm_Mo_rd (fun _ => jm_Mo_bd (moJx4a65c_grow_d5877 _) (fun _ => moJx4a65c_add_72be8_11 _ _ _ _))) (moJx4a65c_add_72be8_11 _ _ _ _))
set_option maxHeartbeats 4000000 in
set_option maxRecDepth 100000 in
theorem kJx4a65c_add_72be8 {rv : Unit} {Sf : jm_S} (C : jm_C G cJx4a65c_add_72be8 4 RJx4a65c wsJx4a65c_add_72be8 (none) p s m args meth c) {n0 m0 mc ms : Nat} (hr1 : Sf.2.1 ≤ n0 + mc) (hr2 : Sf.2.2.1 ≤ m0 + ms) : ∀ (h0 : Nat) (x1 : Option Nat) (x2 : Option Nat) (x3 : Int32) {S : jm_S} {H : Heap} {locs : List Loc} {ls : Array Slot} {cells slots : Nat}, fJx4a65c_add_72be8 h0 x1 x2 x3 S = some (rv, Sf) → jm_J G S H → va_S (jm_A G) s.heap H locs → jm_L ls 4 [(0, .inr (some h0)), (1, .inr x1), (2, .inr x2), (3, .inl x3)] → cells + n0 ≤ S.2.1 → slots + m0 ≤ S.2.2.1 → W p l e ({ frames := 5, cells := mc, slots := ms, locals := 127 } : Room) s m args below meth c H locs cells slots (MQ below (jm_Q G (none) Sf) args s mc ms (jm_A G)) (F0 m 0 ls []) := by
  intro h0 x1 x2 x3 S H locs ls cells slots hf hJ hS hl hc1 hc2
  unfold fJx4a65c_add_72be8 at hf
  refine lv_iload_n C.1 C.2.1 dJx4a65c_add_72be8_0 rfl (hl.at 3 rfl) ?_
  refine jw_aload_n C dJx4a65c_add_72be8_1 rfl (hl.at 2 rfl) ?_
  obtain ⟨v1, h1, hf⟩ := jm_rd_ok hf
  refine jw_lq C hJ hS h1 (by decide) rfl dJx4a65c_add_72be8_2 ?_
  refine lv_icmp_ne (tgt := 11) C.1 C.2.1 dJx4a65c_add_72be8_3 (by decide) (fun hq2 => ?_) (fun hq2 => ?_)
  · replace hf := jm_iff hf hq2
    exact kJx4a65c_add_72be8_11 C hr1 hr2 h0 x1 x2 x3 hf hJ hS (hl.sub [0, 1, 2, 3] rfl) hc1 hc2
  · replace hf := jm_ift hf hq2
    refine jw_aload_n C dJx4a65c_add_72be8_6 rfl (hl.at 0 rfl) ?_
    obtain ⟨a5, o5, hf⟩ := jm_rd_ok hf
    obtain ⟨v5, S5, h5, hf⟩ := jm_bd_ok hf
    have e5 := moJx4a65c_grow_d5877 a5 _ _ _ h5
    have g5 := jm_mo hf (moJx4a65c_add_72be8_11 _ _ _ _)
    refine jw_cV (q := (RJx4a65c, TJx4a65c, 3)) C hJ hS o5 rfl (cJx4a65c_grow_d5877_C l G a5 h5 (S5.2.1 - S.2.1) (S5.2.2.1 - S.2.2.1) (by omega) (by omega)) (cwV 0 C.2.2.2.2.1 gJx4a65c_add_72be8_Jx4a65c_grow_d5877 rfl rfl rfl (by decide +kernel) ⟨Nat.le_of_ble_eq_true rfl, Nat.le_of_ble_eq_true rfl⟩) rfl hl.1 rfl (Nat.le_of_ble_eq_true rfl) dJx4a65c_add_72be8_7 ⟨by show cells + _ ≤ mc; omega, by show slots + _ ≤ ms; omega⟩ (fun H locs hJ hS => ?_)
    replace hc1 : cells + (S5.2.1 - S.2.1) + n0 ≤ S5.2.1 := by omega
    replace hc2 : slots + (S5.2.2.1 - S.2.2.1) + m0 ≤ S5.2.2.1 := by omega
    generalize cells + (S5.2.1 - S.2.1) = cells at hc1 ⊢
    generalize slots + (S5.2.2.1 - S.2.2.1) = slots at hc2 ⊢
    refine jw_astore_n C dJx4a65c_add_72be8_10 rfl hl (by decide) rfl (fun ls hl => ?_)
    exact kJx4a65c_add_72be8_11 C hr1 hr2 h0 x1 v5 x3 hf hJ hS (hl.sub [1, 2, 0, 3] rfl) hc1 hc2
set_option maxHeartbeats 4000000 in
set_option maxRecDepth 100000 in
theorem cJx4a65c_add_72be8_C (l : Launch) (G : jm_G) (h0 : Nat) (x1 : Option Nat) (x2 : Option Nat) (x3 : Int32) {S Sf : jm_S} {rv : Unit} (hf : fJx4a65c_add_72be8 h0 x1 x2 x3 S = some (rv, Sf)) (mc ms : Nat) (hr1 : Sf.2.1 ≤ S.2.1 + mc) (hr2 : Sf.2.2.1 ≤ S.2.2.1 + ms) : Met l yJx4a65c_add_72be8 wsJx4a65c_add_72be8 ({ frames := 5, cells := mc, slots := ms, locals := 127 } : Room) (jm_Pc G S [.ref h0, va_rf x1, va_rf x2, .int x3]) (jm_Q G (none) Sf) mc ms (jm_A G) := by
  refine va_MetF (cc := cJx4a65c_add_72be8) (maxL := 4) (ret := none) (by decide +kernel) rfl ?_
  intro p e s m args below meth c s₁ B hml hv
  obtain ⟨rfl, hJ, hX⟩ := hv
  have C : jm_C G cJx4a65c_add_72be8 4 RJx4a65c wsJx4a65c_add_72be8 (none) p s m _ meth c := ⟨B.exec, B.bytes, hml, findClass_of_methodNamed B.named, atoms_spec (ws := wsJx4a65c_add_72be8) B.pre, B.returns, B.notSynchronized, hX⟩
  obtain ⟨ls, he, hl⟩ := jm_entry m [.inr (some h0), .inr x1, .inr x2, .inl x3] (n := 4) (Nat.le_of_ble_eq_true rfl)
  have he : entryFrame m ([.ref h0, va_rf x1, va_rf x2, .int x3] : List Value).toArray 4 = F0 m 0 ls [] := he
  rw [he]
  exact kJx4a65c_add_72be8 C (n0 := S.2.1) (m0 := S.2.2.1) hr1 hr2 h0 x1 x2 x3 hf hJ va_S.rf (hl.sub [0, 1, 2, 3] rfl) (by omega) (by omega)
/-! java/util/ArrayList.add -/
def fJx4a65c_add_9ea2d (h0 : Nat) (x1 : Option Nat) : jm_P Int32 := jm_rd (jm_gI (some h0) 0 0) fun v1 => jm_wr (jm_p (some h0) 0 0 (.inl (v1 + 1))) <| jm_rd (jm_gR (some h0) 0 1) fun v3 => jm_rd (jm_gI (some h0) 0 2) fun v4 => jm_rd (jm_o (some h0) 0) fun a5 => jm_bd (fJx4a65c_add_72be8 a5 x1 v3 v4) fun _ => jm_rd (jm_z 1) fun _ => jm_ret 1
theorem inJx4a65c_add_9ea2d_Jx4a65c : ∀ w ∈ wsJx4a65c0, w ∈ wsJx4a65c_add_9ea2d := fun _ h => List.mem_cons_of_mem _ (List.mem_append_right _ h)
theorem moJx4a65c_add_9ea2d (h0 : Nat) (x1 : Option Nat) : jm_Mo (fJx4a65c_add_9ea2d h0 x1) := by
  unfold fJx4a65c_add_9ea2d
  exact jm_Mo_rd (fun _ => jm_Mo_wr jm_p_st (jm_Mo_rd (fun _ => jm_Mo_rd (fun _ => jm_Mo_rd (fun _ => jm_Mo_bd (moJx4a65c_add_72be8 _ _ _ _) (fun _ => jm_Mo_rd (fun _ => jm_Mo_ret _)))))))
set_option maxHeartbeats 4000000 in
set_option maxRecDepth 100000 in
theorem kJx4a65c_add_9ea2d {rv : Int32} {Sf : jm_S} (C : jm_C G cJx4a65c_add_9ea2d 2 RJx4a65c wsJx4a65c_add_9ea2d ((some .boolean)) p s m args meth c) {n0 m0 mc ms : Nat} (hr1 : Sf.2.1 ≤ n0 + mc) (hr2 : Sf.2.2.1 ≤ m0 + ms) : ∀ (h0 : Nat) (x1 : Option Nat) {S : jm_S} {H : Heap} {locs : List Loc} {ls : Array Slot} {cells slots : Nat}, fJx4a65c_add_9ea2d h0 x1 S = some (rv, Sf) → jm_J G S H → va_S (jm_A G) s.heap H locs → jm_L ls 2 [(0, .inr (some h0)), (1, .inr x1)] → cells + n0 ≤ S.2.1 → slots + m0 ≤ S.2.2.1 → W p l e ({ frames := 6, cells := mc, slots := ms, locals := 150 } : Room) s m args below meth c H locs cells slots (MQ below (jm_Q G (some (.int rv)) Sf) args s mc ms (jm_A G)) (F0 m 0 ls []) := by
  intro h0 x1 S H locs ls cells slots hf hJ hS hl hc1 hc2
  unfold fJx4a65c_add_9ea2d at hf
  refine jw_aload_n C dJx4a65c_add_9ea2d_0 rfl (hl.at 0 rfl) ?_
  refine lv_dup C.1 C.2.1 dJx4a65c_add_9ea2d_1 (jm_catr _) ?_
  obtain ⟨v1, h1, hf⟩ := jm_rd_ok hf
  refine jw_gI (Cn := RJx4a65c) (T := TJx4a65c) (N := 3) C hJ h1 rfl inJx4a65c_add_9ea2d_Jx4a65c (by decide) (jm_w C 1 rfl) (u_same (jm_w C 2 rfl)) dJx4a65c_add_9ea2d_2 ?_
  refine lv_iconst (v := 1) C.1 C.2.1 dJx4a65c_add_9ea2d_5 (by decide) ?_
  refine lv_iadd C.1 C.2.1 dJx4a65c_add_9ea2d_6 ?_
  obtain ⟨S2, h2, hf⟩ := jm_wr_ok hf
  have e2 := jm_p_st _ _ h2
  rw [← e2] at hc1 hc2
  refine jw_p (x := .inl (v1 + 1)) (ty := .int) (Cn := RJx4a65c) (T := TJx4a65c) (N := 3) C hJ hS h2 rfl inJx4a65c_add_9ea2d_Jx4a65c tyJx4a65c tyJx4a65c_ok nmJx4a65c (by decide) (jm_w C 1 rfl) (u_same (jm_w C 2 rfl)) rfl (by decide +kernel) rfl rfl dJx4a65c_add_9ea2d_7 (fun H locs hJ hS => ?_)
  refine jw_aload_n C dJx4a65c_add_9ea2d_10 rfl (hl.at 0 rfl) ?_
  refine jw_aload_n C dJx4a65c_add_9ea2d_11 rfl (hl.at 1 rfl) ?_
  refine jw_aload_n C dJx4a65c_add_9ea2d_12 rfl (hl.at 0 rfl) ?_
  obtain ⟨v3, h3, hf⟩ := jm_rd_ok hf
  refine jw_gR (Cn := RJx4a65c) (T := TJx4a65c) (N := 3) C hJ h3 rfl inJx4a65c_add_9ea2d_Jx4a65c (by decide) (jm_w C 3 rfl) (fun _ h => h) dJx4a65c_add_9ea2d_13 ?_
  refine jw_aload_n C dJx4a65c_add_9ea2d_16 rfl (hl.at 0 rfl) ?_
  obtain ⟨v4, h4, hf⟩ := jm_rd_ok hf
  refine jw_gI (Cn := RJx4a65c) (T := TJx4a65c) (N := 3) C hJ h4 rfl inJx4a65c_add_9ea2d_Jx4a65c (by decide) (jm_w C 4 rfl) (fun _ h => h) dJx4a65c_add_9ea2d_17 ?_
  obtain ⟨a5, o5, hf⟩ := jm_rd_ok hf
  obtain ⟨v5, S5, h5, hf⟩ := jm_bd_ok hf
  have e5 := moJx4a65c_add_72be8 a5 x1 v3 v4 _ _ _ h5
  have g5 := jm_mo hf (jm_Mo_rd (fun _ => jm_Mo_ret _))
  refine jw_cV (q := (RJx4a65c, TJx4a65c, 3)) C hJ hS o5 rfl (cJx4a65c_add_72be8_C l G a5 x1 v3 v4 h5 (S5.2.1 - S2.2.1) (S5.2.2.1 - S2.2.2.1) (by omega) (by omega)) (cwV 3 C.2.2.2.2.1 gJx4a65c_add_9ea2d_Jx4a65c_add_72be8 rfl rfl rfl (by decide +kernel) ⟨Nat.le_of_ble_eq_true rfl, Nat.le_of_ble_eq_true rfl⟩) rfl hl.1 rfl (Nat.le_of_ble_eq_true rfl) dJx4a65c_add_9ea2d_20 ⟨by show cells + _ ≤ mc; omega, by show slots + _ ≤ ms; omega⟩ (fun H locs hJ hS => ?_)
  replace hc1 : cells + (S5.2.1 - S2.2.1) + n0 ≤ S5.2.1 := by omega
  replace hc2 : slots + (S5.2.2.1 - S2.2.2.1) + m0 ≤ S5.2.2.1 := by omega
  generalize cells + (S5.2.1 - S2.2.1) = cells at hc1 ⊢
  generalize slots + (S5.2.2.1 - S2.2.2.1) = slots at hc2 ⊢
  refine lv_iconst (v := 1) C.1 C.2.1 dJx4a65c_add_9ea2d_23 (by decide) ?_
  obtain ⟨u6, z6, hf⟩ := jm_rd_ok hf
  obtain ⟨rfl, rfl⟩ := jm_ret_ok hf
  exact jw_rz C hJ hS z6 (by omega) (by omega) dJx4a65c_add_9ea2d_24
set_option maxHeartbeats 4000000 in
set_option maxRecDepth 100000 in
theorem cJx4a65c_add_9ea2d_C (l : Launch) (G : jm_G) (h0 : Nat) (x1 : Option Nat) {S Sf : jm_S} {rv : Int32} (hf : fJx4a65c_add_9ea2d h0 x1 S = some (rv, Sf)) (mc ms : Nat) (hr1 : Sf.2.1 ≤ S.2.1 + mc) (hr2 : Sf.2.2.1 ≤ S.2.2.1 + ms) : Met l yJx4a65c_add_9ea2d wsJx4a65c_add_9ea2d ({ frames := 6, cells := mc, slots := ms, locals := 150 } : Room) (jm_Pc G S [.ref h0, va_rf x1]) (jm_Q G (some (.int rv)) Sf) mc ms (jm_A G) := by
  refine va_MetF (cc := cJx4a65c_add_9ea2d) (maxL := 2) (ret := (some .boolean)) (by decide +kernel) rfl ?_
  intro p e s m args below meth c s₁ B hml hv
  obtain ⟨rfl, hJ, hX⟩ := hv
  have C : jm_C G cJx4a65c_add_9ea2d 2 RJx4a65c wsJx4a65c_add_9ea2d ((some .boolean)) p s m _ meth c := ⟨B.exec, B.bytes, hml, findClass_of_methodNamed B.named, atoms_spec (ws := wsJx4a65c_add_9ea2d) B.pre, B.returns, B.notSynchronized, hX⟩
  obtain ⟨ls, he, hl⟩ := jm_entry m [.inr (some h0), .inr x1] (n := 2) (Nat.le_of_ble_eq_true rfl)
  have he : entryFrame m ([.ref h0, va_rf x1] : List Value).toArray 2 = F0 m 0 ls [] := he
  rw [he]
  exact kJx4a65c_add_9ea2d C (n0 := S.2.1) (m0 := S.2.2.1) hr1 hr2 h0 x1 hf hJ va_S.rf (hl.sub [0, 1] rfl) (by omega) (by omega)
end JG
