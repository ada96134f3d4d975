section JG
variable {p : Program} {l : Launch} {e : Env} {s : State} {m : MethodId} {args : Array Value} {below : List Frame} {meth : Method} {c : Code} {G : jm_G}
/-! CoordinationServiceModel.begins -/
def fX8_begins_98 : Nat → Nat → Int32 → jm_P Unit
  | 0, _, _ => jm_no
  | n + 1, h0, x2 => (if 6 ≤ x2 then jm_ret () else jm_rd (jm_gR (some h0) 9 23) fun v11 => jm_wr (jm_si v11 0 x2 0) <| fX8_begins_98 n h0 (x2 + 1))
def fX8_begins_7 : Nat → Nat → Int32 → jm_P Unit
  | 0, _, _ => jm_no
  | n + 1, h0, x2 => (if 5 ≤ x2 then jm_wr (jm_p (some h0) 9 5 (.inl (-8))) <| jm_wr (jm_p (some h0) 9 6 (.inl 0)) <| jm_wr (jm_p (some h0) 9 7 (.inl 0)) <| jm_wr (jm_p (some h0) 9 8 (.inl 0)) <| jm_wr (jm_p (some h0) 9 20 (.inl 0)) <| jm_wr (jm_p (some h0) 9 22 (.inl 0)) <| jm_wr (jm_p (some h0) 9 25 (.inl 0)) <| fX8_begins_98 4096 h0 0 else jm_rd (jm_gR (some h0) 9 1) fun v13 => jm_rd (jm_z 1) fun _ => jm_wr (jm_si v13 1 x2 1) <| jm_rd (jm_gR (some h0) 9 2) fun v15 => jm_rd (jm_z 0) fun _ => jm_wr (jm_si v15 1 x2 0) <| jm_rd (jm_gR (some h0) 9 3) fun v17 => jm_wr (jm_si v17 0 x2 0) <| jm_rd (jm_gR (some h0) 9 4) fun v19 => jm_wr (jm_si v19 0 x2 0) <| jm_rd (jm_gR (some h0) 9 9) fun v21 => jm_wr (jm_si v21 0 x2 0) <| jm_rd (jm_gR (some h0) 9 15) fun v23 => jm_wr (jm_si v23 0 x2 0) <| fX8_begins_7 n h0 (x2 + 1))
def fX8_begins (h0 : Nat) (x1 : Int32) : jm_P Unit := jm_wr (jm_p (some h0) 9 0 (.inl x1)) <| fX8_begins_7 4096 h0 0
theorem inX8_begins_X8 : ∀ w ∈ wsX80, w ∈ wsX8_begins := fun _ h => List.mem_cons_of_mem _ (List.mem_append_right _ h)
theorem moX8_begins_98 : ∀ (n : Nat) (h0 : Nat) (x2 : Int32), jm_Mo (fX8_begins_98 n h0 x2) := by
  intro n
  induction n with
  | zero =>
    intro h0 x2
    rw [fX8_begins_98]
    exact jm_Mo_no
  | succ n ih =>
    intro h0 x2
    rw [fX8_begins_98]
    exact jm_Mo_if (jm_Mo_ret _) (jm_Mo_rd (fun _ => jm_Mo_wr jm_si_st (ih _ _)))
set_option maxHeartbeats 4000000 in
set_option maxRecDepth 100000 in
theorem kX8_begins_98 {rv : Unit} {Sf : jm_S} (C : jm_C G cX8_begins 3 RX8 wsX8_begins (none) p s m args meth c) : ∀ (n : Nat) (h0 : Nat) (x2 : Int32) {S : jm_S} {H : Heap} {locs : List Loc} {ls : Array Slot}, fX8_begins_98 n h0 x2 S = some (rv, Sf) → jm_J G S H → va_S (jm_A G) s.heap H locs → jm_L ls 3 [(0, .inr (some h0)), (2, .inl x2)] → W p l e ({ frames := 0, cells := 0, slots := 0, locals := 0 } : Room) s m args below meth c H locs 0 0 (MQ below (jm_Q G (none) Sf) args s 0 0 (jm_A G)) (F0 m 98 ls []) := by
  intro n
  induction n with
  | zero =>
    intro h0 x2 S H locs ls hf
    rw [fX8_begins_98] at hf
    exact absurd hf (fun h => jm_no_ok h)
  | succ n ih =>
    intro h0 x2 S H locs ls hf hJ hS hl
    rw [fX8_begins_98] at hf
    refine lv_iload_n C.1 C.2.1 dX8_begins_98 rfl (hl.at 1 rfl) ?_
    refine lv_bipush (v := 6) C.1 C.2.1 dX8_begins_99 (by decide) ?_
    refine lv_icmp_ge (tgt := 117) C.1 C.2.1 dX8_begins_101 (by decide) (fun hq10 => ?_) (fun hq10 => ?_)
    · replace hf := jm_ift hf hq10
      obtain ⟨rfl, rfl⟩ := jm_ret_ok hf
      exact jw_rv C hJ hS (Nat.le_refl _) (Nat.le_refl _) dX8_begins_117
    · replace hf := jm_iff hf hq10
      refine jw_aload_n C dX8_begins_104 rfl (hl.at 0 rfl) ?_
      obtain ⟨v11, h11, hf⟩ := jm_rd_ok hf
      refine jw_gR (Cn := RX8) (T := TX8) (N := 29) C hJ h11 rfl inX8_begins_X8 (by decide) (jm_w C 15 rfl) (fun _ h => h) dX8_begins_105 ?_
      refine lv_iload_n C.1 C.2.1 dX8_begins_108 rfl (hl.at 1 rfl) ?_
      refine lv_iconst (v := 0) C.1 C.2.1 dX8_begins_109 (by decide) ?_
      obtain ⟨S12, h12, hf⟩ := jm_wr_ok hf
      refine jw_iastore C hJ hS h12 dX8_begins_110 (fun H locs hJ hS => ?_)
      refine jw_iinc (v := x2 + 1) C 1 dX8_begins_111 hl rfl (by rfl) (by decide) rfl (fun ls hl => ?_)
      refine lv_goto (tgt := 98) C.1 C.2.1 dX8_begins_114 (by decide) ?_
      exact ih h0 (x2 + 1) hf hJ hS (hl.sub [1, 0] rfl)
theorem moX8_begins_7 : ∀ (n : Nat) (h0 : Nat) (x2 : Int32), jm_Mo (fX8_begins_7 n h0 x2) := by
  intro n
  induction n with
  | zero =>
    intro h0 x2
    rw [fX8_begins_7]
    exact jm_Mo_no
  | succ n ih =>
    intro h0 x2
    rw [fX8_begins_7]
    exact jm_Mo_if (jm_Mo_wr jm_p_st (jm_Mo_wr jm_p_st (jm_Mo_wr jm_p_st (jm_Mo_wr jm_p_st (jm_Mo_wr jm_p_st (jm_Mo_wr jm_p_st (jm_Mo_wr jm_p_st (moX8_begins_98 _ _ _)))))))) (jm_Mo_rd (fun _ => jm_Mo_rd (fun _ => jm_Mo_wr jm_si_st (jm_Mo_rd (fun _ => jm_Mo_rd (fun _ => jm_Mo_wr jm_si_st (jm_Mo_rd (fun _ => jm_Mo_wr jm_si_st (jm_Mo_rd (fun _ => jm_Mo_wr jm_si_st (jm_Mo_rd (fun _ => jm_Mo_wr jm_si_st (jm_Mo_rd (fun _ => jm_Mo_wr jm_si_st (ih _ _)))))))))))))))
set_option maxHeartbeats 4000000 in
set_option maxRecDepth 100000 in
theorem kX8_begins_7 {rv : Unit} {Sf : jm_S} (C : jm_C G cX8_begins 3 RX8 wsX8_begins (none) p s m args meth c) : ∀ (n : Nat) (h0 : Nat) (x2 : Int32) {S : jm_S} {H : Heap} {locs : List Loc} {ls : Array Slot}, fX8_begins_7 n h0 x2 S = some (rv, Sf) → jm_J G S H → va_S (jm_A G) s.heap H locs → jm_L ls 3 [(0, .inr (some h0)), (2, .inl x2)] → W p l e ({ frames := 0, cells := 0, slots := 0, locals := 0 } : Room) s m args below meth c H locs 0 0 (MQ below (jm_Q G (none) Sf) args s 0 0 (jm_A G)) (F0 m 7 ls []) := by
  intro n
  induction n with
  | zero =>
    intro h0 x2 S H locs ls hf
    rw [fX8_begins_7] at hf
    exact absurd hf (fun h => jm_no_ok h)
  | succ n ih =>
    intro h0 x2 S H locs ls hf hJ hS hl
    rw [fX8_begins_7] at hf
    refine lv_iload_n C.1 C.2.1 dX8_begins_7 rfl (hl.at 1 rfl) ?_
    refine lv_iconst (v := 5) C.1 C.2.1 dX8_begins_8 (by decide) ?_
    refine lv_icmp_ge (tgt := 60) C.1 C.2.1 dX8_begins_9 (by decide) (fun hq2 => ?_) (fun hq2 => ?_)
    · replace hf := jm_ift hf hq2
      refine jw_aload_n C dX8_begins_60 rfl (hl.at 0 rfl) ?_
      refine lv_bipush (v := (-8)) C.1 C.2.1 dX8_begins_61 (by decide) ?_
      obtain ⟨S3, h3, hf⟩ := jm_wr_ok hf
      refine jw_p (x := .inl (-8)) (ty := .int) (Cn := RX8) (T := TX8) (N := 29) C hJ hS h3 rfl inX8_begins_X8 tyX8 tyX8_ok nmX8 (by decide) (jm_w C 8 rfl) (fun _ h => h) rfl (by decide +kernel) rfl rfl dX8_begins_63 (fun H locs hJ hS => ?_)
      refine jw_aload_n C dX8_begins_66 rfl (hl.at 0 rfl) ?_
      refine lv_iconst (v := 0) C.1 C.2.1 dX8_begins_67 (by decide) ?_
      obtain ⟨S4, h4, hf⟩ := jm_wr_ok hf
      refine jw_p (x := .inl 0) (ty := .int) (Cn := RX8) (T := TX8) (N := 29) C hJ hS h4 rfl inX8_begins_X8 tyX8 tyX8_ok nmX8 (by decide) (jm_w C 9 rfl) (fun _ h => h) rfl (by decide +kernel) rfl rfl dX8_begins_68 (fun H locs hJ hS => ?_)
      refine jw_aload_n C dX8_begins_71 rfl (hl.at 0 rfl) ?_
      refine lv_iconst (v := 0) C.1 C.2.1 dX8_begins_72 (by decide) ?_
      obtain ⟨S5, h5, hf⟩ := jm_wr_ok hf
      refine jw_p (x := .inl 0) (ty := .int) (Cn := RX8) (T := TX8) (N := 29) C hJ hS h5 rfl inX8_begins_X8 tyX8 tyX8_ok nmX8 (by decide) (jm_w C 10 rfl) (fun _ h => h) rfl (by decide +kernel) rfl rfl dX8_begins_73 (fun H locs hJ hS => ?_)
      refine jw_aload_n C dX8_begins_76 rfl (hl.at 0 rfl) ?_
      refine lv_iconst (v := 0) C.1 C.2.1 dX8_begins_77 (by decide) ?_
      obtain ⟨S6, h6, hf⟩ := jm_wr_ok hf
      refine jw_p (x := .inl 0) (ty := .int) (Cn := RX8) (T := TX8) (N := 29) C hJ hS h6 rfl inX8_begins_X8 tyX8 tyX8_ok nmX8 (by decide) (jm_w C 11 rfl) (fun _ h => h) rfl (by decide +kernel) rfl rfl dX8_begins_78 (fun H locs hJ hS => ?_)
      refine jw_aload_n C dX8_begins_81 rfl (hl.at 0 rfl) ?_
      refine lv_iconst (v := 0) C.1 C.2.1 dX8_begins_82 (by decide) ?_
      obtain ⟨S7, h7, hf⟩ := jm_wr_ok hf
      refine jw_p (x := .inl 0) (ty := .int) (Cn := RX8) (T := TX8) (N := 29) C hJ hS h7 rfl inX8_begins_X8 tyX8 tyX8_ok nmX8 (by decide) (jm_w C 12 rfl) (fun _ h => h) rfl (by decide +kernel) rfl rfl dX8_begins_83 (fun H locs hJ hS => ?_)
      refine jw_aload_n C dX8_begins_86 rfl (hl.at 0 rfl) ?_
      refine lv_iconst (v := 0) C.1 C.2.1 dX8_begins_87 (by decide) ?_
      obtain ⟨S8, h8, hf⟩ := jm_wr_ok hf
      refine jw_p (x := .inl 0) (ty := .int) (Cn := RX8) (T := TX8) (N := 29) C hJ hS h8 rfl inX8_begins_X8 tyX8 tyX8_ok nmX8 (by decide) (jm_w C 13 rfl) (fun _ h => h) rfl (by decide +kernel) rfl rfl dX8_begins_88 (fun H locs hJ hS => ?_)
      refine jw_aload_n C dX8_begins_91 rfl (hl.at 0 rfl) ?_
      refine lv_iconst (v := 0) C.1 C.2.1 dX8_begins_92 (by decide) ?_
      obtain ⟨S9, h9, hf⟩ := jm_wr_ok hf
      refine jw_p (x := .inl 0) (ty := .int) (Cn := RX8) (T := TX8) (N := 29) C hJ hS h9 rfl inX8_begins_X8 tyX8 tyX8_ok nmX8 (by decide) (jm_w C 14 rfl) (fun _ h => h) rfl (by decide +kernel) rfl rfl dX8_begins_93 (fun H locs hJ hS => ?_)
      refine lv_iconst (v := 0) C.1 C.2.1 dX8_begins_96 (by decide) ?_
      refine jw_istore_n C dX8_begins_97 rfl hl (by decide) rfl (fun ls hl => ?_)
      exact kX8_begins_98 C 4096 h0 0 hf hJ hS (hl.sub [1, 0] rfl)
    · replace hf := jm_iff hf hq2
      refine jw_aload_n C dX8_begins_12 rfl (hl.at 0 rfl) ?_
      obtain ⟨v13, h13, hf⟩ := jm_rd_ok hf
      refine jw_gR (Cn := RX8) (T := TX8) (N := 29) C hJ h13 rfl inX8_begins_X8 (by decide) (jm_w C 2 rfl) (fun _ h => h) dX8_begins_13 ?_
      refine lv_iload_n C.1 C.2.1 dX8_begins_16 rfl (hl.at 1 rfl) ?_
      refine lv_iconst (v := 1) C.1 C.2.1 dX8_begins_17 (by decide) ?_
      obtain ⟨u14, z14, hf⟩ := jm_rd_ok hf
      obtain ⟨S14, h14, hf⟩ := jm_wr_ok hf
      refine jw_zastore C hJ hS z14 h14 dX8_begins_18 (fun H locs hJ hS => ?_)
      refine jw_aload_n C dX8_begins_19 rfl (hl.at 0 rfl) ?_
      obtain ⟨v15, h15, hf⟩ := jm_rd_ok hf
      refine jw_gR (Cn := RX8) (T := TX8) (N := 29) C hJ h15 rfl inX8_begins_X8 (by decide) (jm_w C 3 rfl) (fun _ h => h) dX8_begins_20 ?_
      refine lv_iload_n C.1 C.2.1 dX8_begins_23 rfl (hl.at 1 rfl) ?_
      refine lv_iconst (v := 0) C.1 C.2.1 dX8_begins_24 (by decide) ?_
      obtain ⟨u16, z16, hf⟩ := jm_rd_ok hf
      obtain ⟨S16, h16, hf⟩ := jm_wr_ok hf
      refine jw_zastore C hJ hS z16 h16 dX8_begins_25 (fun H locs hJ hS => ?_)
      refine jw_aload_n C dX8_begins_26 rfl (hl.at 0 rfl) ?_
      obtain ⟨v17, h17, hf⟩ := jm_rd_ok hf
      refine jw_gR (Cn := RX8) (T := TX8) (N := 29) C hJ h17 rfl inX8_begins_X8 (by decide) (jm_w C 4 rfl) (fun _ h => h) dX8_begins_27 ?_
      refine lv_iload_n C.1 C.2.1 dX8_begins_30 rfl (hl.at 1 rfl) ?_
      refine lv_iconst (v := 0) C.1 C.2.1 dX8_begins_31 (by decide) ?_
      obtain ⟨S18, h18, hf⟩ := jm_wr_ok hf
      refine jw_iastore C hJ hS h18 dX8_begins_32 (fun H locs hJ hS => ?_)
      refine jw_aload_n C dX8_begins_33 rfl (hl.at 0 rfl) ?_
      obtain ⟨v19, h19, hf⟩ := jm_rd_ok hf
      refine jw_gR (Cn := RX8) (T := TX8) (N := 29) C hJ h19 rfl inX8_begins_X8 (by decide) (jm_w C 5 rfl) (fun _ h => h) dX8_begins_34 ?_
      refine lv_iload_n C.1 C.2.1 dX8_begins_37 rfl (hl.at 1 rfl) ?_
      refine lv_iconst (v := 0) C.1 C.2.1 dX8_begins_38 (by decide) ?_
      obtain ⟨S20, h20, hf⟩ := jm_wr_ok hf
      refine jw_iastore C hJ hS h20 dX8_begins_39 (fun H locs hJ hS => ?_)
      refine jw_aload_n C dX8_begins_40 rfl (hl.at 0 rfl) ?_
      obtain ⟨v21, h21, hf⟩ := jm_rd_ok hf
      refine jw_gR (Cn := RX8) (T := TX8) (N := 29) C hJ h21 rfl inX8_begins_X8 (by decide) (jm_w C 6 rfl) (fun _ h => h) dX8_begins_41 ?_
      refine lv_iload_n C.1 C.2.1 dX8_begins_44 rfl (hl.at 1 rfl) ?_
      refine lv_iconst (v := 0) C.1 C.2.1 dX8_begins_45 (by decide) ?_
      obtain ⟨S22, h22, hf⟩ := jm_wr_ok hf
      refine jw_iastore C hJ hS h22 dX8_begins_46 (fun H locs hJ hS => ?_)
      refine jw_aload_n C dX8_begins_47 rfl (hl.at 0 rfl) ?_
      obtain ⟨v23, h23, hf⟩ := jm_rd_ok hf
      refine jw_gR (Cn := RX8) (T := TX8) (N := 29) C hJ h23 rfl inX8_begins_X8 (by decide) (jm_w C 7 rfl) (fun _ h => h) dX8_begins_48 ?_
      refine lv_iload_n C.1 C.2.1 dX8_begins_51 rfl (hl.at 1 rfl) ?_
      refine lv_iconst (v := 0) C.1 C.2.1 dX8_begins_52 (by decide) ?_
      obtain ⟨S24, h24, hf⟩ := jm_wr_ok hf
      refine jw_iastore C hJ hS h24 dX8_begins_53 (fun H locs hJ hS => ?_)
      refine jw_iinc (v := x2 + 1) C 1 dX8_begins_54 hl rfl (by rfl) (by decide) rfl (fun ls hl => ?_)
      refine lv_goto (tgt := 7) C.1 C.2.1 dX8_begins_57 (by decide) ?_
      exact ih h0 (x2 + 1) hf hJ hS (hl.sub [1, 0] rfl)
theorem moX8_begins (h0 : Nat) (x1 : Int32) : jm_Mo (fX8_begins h0 x1) := by
  unfold fX8_begins
  exact jm_Mo_wr jm_p_st (moX8_begins_7 _ _ _)
set_option maxHeartbeats 4000000 in
set_option maxRecDepth 100000 in
theorem kX8_begins {rv : Unit} {Sf : jm_S} (C : jm_C G cX8_begins 3 RX8 wsX8_begins (none) p s m args meth c) : ∀ (h0 : Nat) (x1 : Int32) {S : jm_S} {H : Heap} {locs : List Loc} {ls : Array Slot}, fX8_begins h0 x1 S = some (rv, Sf) → jm_J G S H → va_S (jm_A G) s.heap H locs → jm_L ls 3 [(0, .inr (some h0)), (1, .inl x1)] → W p l e ({ frames := 0, cells := 0, slots := 0, locals := 0 } : Room) s m args below meth c H locs 0 0 (MQ below (jm_Q G (none) Sf) args s 0 0 (jm_A G)) (F0 m 0 ls []) := by
  intro h0 x1 S H locs ls hf hJ hS hl
  unfold fX8_begins at hf
  refine jw_aload_n C dX8_begins_0 rfl (hl.at 0 rfl) ?_
  refine lv_iload_n C.1 C.2.1 dX8_begins_1 rfl (hl.at 1 rfl) ?_
  obtain ⟨S1, h1, hf⟩ := jm_wr_ok hf
  refine jw_p (x := .inl x1) (ty := .int) (Cn := RX8) (T := TX8) (N := 29) C hJ hS h1 rfl inX8_begins_X8 tyX8 tyX8_ok nmX8 (by decide) (jm_w C 1 rfl) (fun _ h => h) rfl (by decide +kernel) rfl rfl dX8_begins_2 (fun H locs hJ hS => ?_)
  refine lv_iconst (v := 0) C.1 C.2.1 dX8_begins_5 (by decide) ?_
  refine jw_istore_n C dX8_begins_6 rfl hl (by decide) rfl (fun ls hl => ?_)
  exact kX8_begins_7 C 4096 h0 0 hf hJ hS (hl.sub [1, 0] rfl)
set_option maxHeartbeats 4000000 in
set_option maxRecDepth 100000 in
theorem cX8_begins_C (l : Launch) (G : jm_G) (h0 : Nat) (x1 : Int32) {S Sf : jm_S} {rv : Unit} (hf : fX8_begins h0 x1 S = some (rv, Sf)) : Met l yX8_begins wsX8_begins ({ frames := 0, cells := 0, slots := 0, locals := 0 } : Room) (jm_Pc G S [.ref h0, .int x1]) (jm_Q G (none) Sf) 0 0 (jm_A G) := by
  refine Met.ofW (cc := cX8_begins) (maxL := 3) (ret := none) (by decide) rfl ?_
  intro p e s m args below meth c s₁ B hml hv
  obtain ⟨rfl, hJ, hX⟩ := hv
  have C : jm_C G cX8_begins 3 RX8 wsX8_begins (none) p s m _ meth c := ⟨B.exec, B.bytes, hml, findClass_of_methodNamed B.named, atoms_spec (ws := wsX8_begins) B.pre, B.returns, B.notSynchronized, hX⟩
  obtain ⟨ls, he, hl⟩ := jm_entry m [.inr (some h0), .inl x1] (n := 3) (Nat.le_of_ble_eq_true rfl)
  have he : entryFrame m ([.ref h0, .int x1] : List Value).toArray 3 = F0 m 0 ls [] := he
  rw [he]
  exact kX8_begins C h0 x1 hf hJ va_S.rf (hl.sub [0, 1] rfl)
/-! CoordinationServiceModel.<init> -/
def fX8_init (h0 : Nat) : jm_P Unit := jm_rd (jm_nn (some h0)) fun _ => jm_wr (jm_p (some h0) 9 0 (.inl 3)) <| jm_bd (jm_na 1 5) fun q3 => jm_wr (jm_p (some h0) 9 1 (.inr q3)) <| jm_bd (jm_na 1 5) fun q5 => jm_wr (jm_p (some h0) 9 2 (.inr q5)) <| jm_bd (jm_na 0 5) fun q7 => jm_wr (jm_p (some h0) 9 3 (.inr q7)) <| jm_bd (jm_na 0 5) fun q9 => jm_wr (jm_p (some h0) 9 4 (.inr q9)) <| jm_bd (jm_na 0 5) fun q11 => jm_wr (jm_p (some h0) 9 9 (.inr q11)) <| jm_bd (jm_na 0 200) fun q13 => jm_wr (jm_p (some h0) 9 10 (.inr q13)) <| jm_bd (jm_na 0 200) fun q15 => jm_wr (jm_p (some h0) 9 11 (.inr q15)) <| jm_bd (jm_na 0 200) fun q17 => jm_wr (jm_p (some h0) 9 12 (.inr q17)) <| jm_bd (jm_na 0 200) fun q19 => jm_wr (jm_p (some h0) 9 13 (.inr q19)) <| jm_bd (jm_na 0 200) fun q21 => jm_wr (jm_p (some h0) 9 14 (.inr q21)) <| jm_bd (jm_na 0 6) fun q23 => jm_wr (jm_p (some h0) 9 15 (.inr q23)) <| jm_bd (jm_na 0 72) fun q25 => jm_wr (jm_p (some h0) 9 16 (.inr q25)) <| jm_bd (jm_na 0 72) fun q27 => jm_wr (jm_p (some h0) 9 17 (.inr q27)) <| jm_bd (jm_na 0 72) fun q29 => jm_wr (jm_p (some h0) 9 18 (.inr q29)) <| jm_bd (jm_na 0 72) fun q31 => jm_wr (jm_p (some h0) 9 19 (.inr q31)) <| jm_bd (jm_na 0 4) fun q33 => jm_wr (jm_p (some h0) 9 21 (.inr q33)) <| jm_bd (jm_na 0 6) fun q35 => jm_wr (jm_p (some h0) 9 23 (.inr q35)) <| jm_bd (jm_na 0 48) fun q37 => jm_wr (jm_p (some h0) 9 24 (.inr q37)) <| jm_bd (jm_na 0 10) fun q39 => jm_wr (jm_p (some h0) 9 26 (.inr q39)) <| jm_bd (jm_na 0 10) fun q41 => jm_wr (jm_p (some h0) 9 27 (.inr q41)) <| jm_bd (jm_na 0 10) fun q43 => jm_wr (jm_p (some h0) 9 28 (.inr q43)) <| jm_rd (jm_o (some h0) 9) fun a45 => jm_bd (fX8_begins a45 3) fun _ => jm_ret ()
theorem inX8_init_X8 : ∀ w ∈ wsX80, w ∈ wsX8_init := fun _ h => List.mem_cons_of_mem _ (List.mem_append_right _ h)
theorem moX8_init (h0 : Nat) : jm_Mo (fX8_init h0) := by
  unfold fX8_init
  exact jm_Mo_rd (fun _ => jm_Mo_wr jm_p_st (jm_Mo_bd jm_Mo_na (fun _ => jm_Mo_wr jm_p_st (jm_Mo_bd jm_Mo_na (fun _ => jm_Mo_wr jm_p_st (jm_Mo_bd jm_Mo_na (fun _ => jm_Mo_wr jm_p_st (jm_Mo_bd jm_Mo_na (fun _ => jm_Mo_wr jm_p_st (jm_Mo_bd jm_Mo_na (fun _ => jm_Mo_wr jm_p_st (jm_Mo_bd jm_Mo_na (fun _ => jm_Mo_wr jm_p_st (jm_Mo_bd jm_Mo_na (fun _ => jm_Mo_wr jm_p_st (jm_Mo_bd jm_Mo_na (fun _ => jm_Mo_wr jm_p_st (jm_Mo_bd jm_Mo_na (fun _ => jm_Mo_wr jm_p_st (jm_Mo_bd jm_Mo_na (fun _ => jm_Mo_wr jm_p_st (jm_Mo_bd jm_Mo_na (fun _ => jm_Mo_wr jm_p_st (jm_Mo_bd jm_Mo_na (fun _ => jm_Mo_wr jm_p_st (jm_Mo_bd jm_Mo_na (fun _ => jm_Mo_wr jm_p_st (jm_Mo_bd jm_Mo_na (fun _ => jm_Mo_wr jm_p_st (jm_Mo_bd jm_Mo_na (fun _ => jm_Mo_wr jm_p_st (jm_Mo_bd jm_Mo_na (fun _ => jm_Mo_wr jm_p_st (jm_Mo_bd jm_Mo_na (fun _ => jm_Mo_wr jm_p_st (jm_Mo_bd jm_Mo_na (fun _ => jm_Mo_wr jm_p_st (jm_Mo_bd jm_Mo_na (fun _ => jm_Mo_wr jm_p_st (jm_Mo_bd jm_Mo_na (fun _ => jm_Mo_wr jm_p_st (jm_Mo_bd jm_Mo_na (fun _ => jm_Mo_wr jm_p_st (jm_Mo_rd (fun _ => jm_Mo_bd (moX8_begins _ _) (fun _ => jm_Mo_ret _))))))))))))))))))))))))))))))))))))))))))))))
set_option maxHeartbeats 4000000 in
set_option maxRecDepth 100000 in
theorem kX8_init {rv : Unit} {Sf : jm_S} (C : jm_C G cX8_init 1 RX8 wsX8_init (none) p s m args meth c) (hi : meth.name = "<init>") {n0 m0 mc ms : Nat} (hr1 : Sf.2.1 ≤ n0 + mc) (hr2 : Sf.2.2.1 ≤ m0 + ms) : ∀ (h0 : Nat) {S : jm_S} {H : Heap} {locs : List Loc} {ls : Array Slot} {cells slots : Nat}, fX8_init h0 S = some (rv, Sf) → jm_J G S H → va_S (jm_A G) s.heap H locs → jm_L ls 1 [(0, .inr (some h0))] → cells + n0 ≤ S.2.1 → slots + m0 ≤ S.2.2.1 → W p l e ({ frames := 1, cells := mc, slots := ms, locals := 22 } : Room) s m args below meth c H locs cells slots (MQ below (jm_Q G (none) Sf) args s mc ms (jm_A G)) (F0 m 0 ls []) := by
  intro h0 S H locs ls cells slots hf hJ hS hl hc1 hc2
  unfold fX8_init at hf
  refine jw_aload_n C dX8_init_0 rfl (hl.at 0 rfl) ?_
  obtain ⟨u1, h1, hf⟩ := jm_rd_ok hf
  refine jw_objInit C h1 hl.1 (jm_w C 1 rfl) (jm_w C 2 rfl) (jm_w C 3 rfl) dX8_init_1 (Nat.le_of_ble_eq_true rfl) (Nat.le_of_ble_eq_true rfl) (Nat.le_of_ble_eq_true rfl) ?_
  refine jw_aload_n C dX8_init_4 rfl (hl.at 0 rfl) ?_
  refine lv_iconst (v := 3) C.1 C.2.1 dX8_init_5 (by decide) ?_
  obtain ⟨S2, h2, hf⟩ := jm_wr_ok hf
  have e2 := jm_p_st _ _ h2
  rw [← e2] at hc1 hc2
  refine jw_p (x := .inl 3) (ty := .int) (Cn := RX8) (T := TX8) (N := 29) C hJ hS h2 rfl inX8_init_X8 tyX8 tyX8_ok nmX8 (by decide) (jm_w C 4 rfl) (fun _ h => h) rfl (by decide +kernel) rfl rfl dX8_init_6 (fun H locs hJ hS => ?_)
  refine jw_aload_n C dX8_init_9 rfl (hl.at 0 rfl) ?_
  refine lv_iconst (v := 5) C.1 C.2.1 dX8_init_10 (by decide) ?_
  obtain ⟨q3, S3, h3, hf⟩ := jm_bd_ok hf
  have e3 := jm_na_st h3
  have g3 := jm_mo hf (jm_Mo_wr jm_p_st (jm_Mo_bd jm_Mo_na (fun _ => jm_Mo_wr jm_p_st (jm_Mo_bd jm_Mo_na (fun _ => jm_Mo_wr jm_p_st (jm_Mo_bd jm_Mo_na (fun _ => jm_Mo_wr jm_p_st (jm_Mo_bd jm_Mo_na (fun _ => jm_Mo_wr jm_p_st (jm_Mo_bd jm_Mo_na (fun _ => jm_Mo_wr jm_p_st (jm_Mo_bd jm_Mo_na (fun _ => jm_Mo_wr jm_p_st (jm_Mo_bd jm_Mo_na (fun _ => jm_Mo_wr jm_p_st (jm_Mo_bd jm_Mo_na (fun _ => jm_Mo_wr jm_p_st (jm_Mo_bd jm_Mo_na (fun _ => jm_Mo_wr jm_p_st (jm_Mo_bd jm_Mo_na (fun _ => jm_Mo_wr jm_p_st (jm_Mo_bd jm_Mo_na (fun _ => jm_Mo_wr jm_p_st (jm_Mo_bd jm_Mo_na (fun _ => jm_Mo_wr jm_p_st (jm_Mo_bd jm_Mo_na (fun _ => jm_Mo_wr jm_p_st (jm_Mo_bd jm_Mo_na (fun _ => jm_Mo_wr jm_p_st (jm_Mo_bd jm_Mo_na (fun _ => jm_Mo_wr jm_p_st (jm_Mo_bd jm_Mo_na (fun _ => jm_Mo_wr jm_p_st (jm_Mo_bd jm_Mo_na (fun _ => jm_Mo_wr jm_p_st (jm_Mo_bd jm_Mo_na (fun _ => jm_Mo_wr jm_p_st (jm_Mo_bd jm_Mo_na (fun _ => jm_Mo_wr jm_p_st (jm_Mo_bd jm_Mo_na (fun _ => jm_Mo_wr jm_p_st (jm_Mo_rd (fun _ => jm_Mo_bd (moX8_begins _ _) (fun _ => jm_Mo_ret _))))))))))))))))))))))))))))))))))))))))))))
  refine jw_naZ C hJ hS h3 (jm_w C 5 rfl) (by show cells + 1 ≤ mc; omega) (by show slots + _ ≤ ms; omega) dX8_init_11 (fun H hJ hS => ?_)
  replace hc1 : cells + 1 + n0 ≤ S3.2.1 := by omega
  replace hc2 : slots + (5 : Int32).toNatClampNeg + m0 ≤ S3.2.2.1 := by omega
  generalize cells + 1 = cells at hc1 ⊢
  generalize slots + (5 : Int32).toNatClampNeg = slots at hc2 ⊢
  obtain ⟨S4, h4, hf⟩ := jm_wr_ok hf
  have e4 := jm_p_st _ _ h4
  rw [← e4] at hc1 hc2
  refine jw_pF (x := .inr q3) (ty := (.array .boolean)) (Cn := RX8) (T := TX8) (N := 29) C hJ hS h4 rfl inX8_init_X8 tyX8 tyX8_ok nmX8 (by decide) (jm_w C 6 rfl) (fun _ h => h) rfl hi rfl (by decide +kernel) (jm_nra _ q3).1 (jm_nra _ q3).2 dX8_init_13 (fun H locs hJ hS => ?_)
  refine jw_aload_n C dX8_init_16 rfl (hl.at 0 rfl) ?_
  refine lv_iconst (v := 5) C.1 C.2.1 dX8_init_17 (by decide) ?_
  obtain ⟨q5, S5, h5, hf⟩ := jm_bd_ok hf
  have e5 := jm_na_st h5
  have g5 := jm_mo hf (jm_Mo_wr jm_p_st (jm_Mo_bd jm_Mo_na (fun _ => jm_Mo_wr jm_p_st (jm_Mo_bd jm_Mo_na (fun _ => jm_Mo_wr jm_p_st (jm_Mo_bd jm_Mo_na (fun _ => jm_Mo_wr jm_p_st (jm_Mo_bd jm_Mo_na (fun _ => jm_Mo_wr jm_p_st (jm_Mo_bd jm_Mo_na (fun _ => jm_Mo_wr jm_p_st (jm_Mo_bd jm_Mo_na (fun _ => jm_Mo_wr jm_p_st (jm_Mo_bd jm_Mo_na (fun _ => jm_Mo_wr jm_p_st (jm_Mo_bd jm_Mo_na (fun _ => jm_Mo_wr jm_p_st (jm_Mo_bd jm_Mo_na (fun _ => jm_Mo_wr jm_p_st (jm_Mo_bd jm_Mo_na (fun _ => jm_Mo_wr jm_p_st (jm_Mo_bd jm_Mo_na (fun _ => jm_Mo_wr jm_p_st (jm_Mo_bd jm_Mo_na (fun _ => jm_Mo_wr jm_p_st (jm_Mo_bd jm_Mo_na (fun _ => jm_Mo_wr jm_p_st (jm_Mo_bd jm_Mo_na (fun _ => jm_Mo_wr jm_p_st (jm_Mo_bd jm_Mo_na (fun _ => jm_Mo_wr jm_p_st (jm_Mo_bd jm_Mo_na (fun _ => jm_Mo_wr jm_p_st (jm_Mo_bd jm_Mo_na (fun _ => jm_Mo_wr jm_p_st (jm_Mo_bd jm_Mo_na (fun _ => jm_Mo_wr jm_p_st (jm_Mo_bd jm_Mo_na (fun _ => jm_Mo_wr jm_p_st (jm_Mo_rd (fun _ => jm_Mo_bd (moX8_begins _ _) (fun _ => jm_Mo_ret _))))))))))))))))))))))))))))))))))))))))))
  refine jw_naZ C hJ hS h5 (jm_w C 5 rfl) (by show cells + 1 ≤ mc; omega) (by show slots + _ ≤ ms; omega) dX8_init_18 (fun H hJ hS => ?_)
  replace hc1 : cells + 1 + n0 ≤ S5.2.1 := by omega
  replace hc2 : slots + (5 : Int32).toNatClampNeg + m0 ≤ S5.2.2.1 := by omega
  generalize cells + 1 = cells at hc1 ⊢
  generalize slots + (5 : Int32).toNatClampNeg = slots at hc2 ⊢
  obtain ⟨S6, h6, hf⟩ := jm_wr_ok hf
  have e6 := jm_p_st _ _ h6
  rw [← e6] at hc1 hc2
  refine jw_pF (x := .inr q5) (ty := (.array .boolean)) (Cn := RX8) (T := TX8) (N := 29) C hJ hS h6 rfl inX8_init_X8 tyX8 tyX8_ok nmX8 (by decide) (jm_w C 7 rfl) (fun _ h => h) rfl hi rfl (by decide +kernel) (jm_nra _ q5).1 (jm_nra _ q5).2 dX8_init_20 (fun H locs hJ hS => ?_)
  refine jw_aload_n C dX8_init_23 rfl (hl.at 0 rfl) ?_
  refine lv_iconst (v := 5) C.1 C.2.1 dX8_init_24 (by decide) ?_
  obtain ⟨q7, S7, h7, hf⟩ := jm_bd_ok hf
  have e7 := jm_na_st h7
  have g7 := jm_mo hf (jm_Mo_wr jm_p_st (jm_Mo_bd jm_Mo_na (fun _ => jm_Mo_wr jm_p_st (jm_Mo_bd jm_Mo_na (fun _ => jm_Mo_wr jm_p_st (jm_Mo_bd jm_Mo_na (fun _ => jm_Mo_wr jm_p_st (jm_Mo_bd jm_Mo_na (fun _ => jm_Mo_wr jm_p_st (jm_Mo_bd jm_Mo_na (fun _ => jm_Mo_wr jm_p_st (jm_Mo_bd jm_Mo_na (fun _ => jm_Mo_wr jm_p_st (jm_Mo_bd jm_Mo_na (fun _ => jm_Mo_wr jm_p_st (jm_Mo_bd jm_Mo_na (fun _ => jm_Mo_wr jm_p_st (jm_Mo_bd jm_Mo_na (fun _ => jm_Mo_wr jm_p_st (jm_Mo_bd jm_Mo_na (fun _ => jm_Mo_wr jm_p_st (jm_Mo_bd jm_Mo_na (fun _ => jm_Mo_wr jm_p_st (jm_Mo_bd jm_Mo_na (fun _ => jm_Mo_wr jm_p_st (jm_Mo_bd jm_Mo_na (fun _ => jm_Mo_wr jm_p_st (jm_Mo_bd jm_Mo_na (fun _ => jm_Mo_wr jm_p_st (jm_Mo_bd jm_Mo_na (fun _ => jm_Mo_wr jm_p_st (jm_Mo_bd jm_Mo_na (fun _ => jm_Mo_wr jm_p_st (jm_Mo_bd jm_Mo_na (fun _ => jm_Mo_wr jm_p_st (jm_Mo_bd jm_Mo_na (fun _ => jm_Mo_wr jm_p_st (jm_Mo_rd (fun _ => jm_Mo_bd (moX8_begins _ _) (fun _ => jm_Mo_ret _))))))))))))))))))))))))))))))))))))))))
  refine jw_naI C hJ hS h7 (jm_w C 8 rfl) (by show cells + 1 ≤ mc; omega) (by show slots + _ ≤ ms; omega) dX8_init_25 (fun H hJ hS => ?_)
  replace hc1 : cells + 1 + n0 ≤ S7.2.1 := by omega
  replace hc2 : slots + (5 : Int32).toNatClampNeg + m0 ≤ S7.2.2.1 := by omega
  generalize cells + 1 = cells at hc1 ⊢
  generalize slots + (5 : Int32).toNatClampNeg = slots at hc2 ⊢
  obtain ⟨S8, h8, hf⟩ := jm_wr_ok hf
  have e8 := jm_p_st _ _ h8
  rw [← e8] at hc1 hc2
  refine jw_pF (x := .inr q7) (ty := (.array .int)) (Cn := RX8) (T := TX8) (N := 29) C hJ hS h8 rfl inX8_init_X8 tyX8 tyX8_ok nmX8 (by decide) (jm_w C 9 rfl) (fun _ h => h) rfl hi rfl (by decide +kernel) (jm_nra _ q7).1 (jm_nra _ q7).2 dX8_init_27 (fun H locs hJ hS => ?_)
  refine jw_aload_n C dX8_init_30 rfl (hl.at 0 rfl) ?_
  refine lv_iconst (v := 5) C.1 C.2.1 dX8_init_31 (by decide) ?_
  obtain ⟨q9, S9, h9, hf⟩ := jm_bd_ok hf
  have e9 := jm_na_st h9
  have g9 := jm_mo hf (jm_Mo_wr jm_p_st (jm_Mo_bd jm_Mo_na (fun _ => jm_Mo_wr jm_p_st (jm_Mo_bd jm_Mo_na (fun _ => jm_Mo_wr jm_p_st (jm_Mo_bd jm_Mo_na (fun _ => jm_Mo_wr jm_p_st (jm_Mo_bd jm_Mo_na (fun _ => jm_Mo_wr jm_p_st (jm_Mo_bd jm_Mo_na (fun _ => jm_Mo_wr jm_p_st (jm_Mo_bd jm_Mo_na (fun _ => jm_Mo_wr jm_p_st (jm_Mo_bd jm_Mo_na (fun _ => jm_Mo_wr jm_p_st (jm_Mo_bd jm_Mo_na (fun _ => jm_Mo_wr jm_p_st (jm_Mo_bd jm_Mo_na (fun _ => jm_Mo_wr jm_p_st (jm_Mo_bd jm_Mo_na (fun _ => jm_Mo_wr jm_p_st (jm_Mo_bd jm_Mo_na (fun _ => jm_Mo_wr jm_p_st (jm_Mo_bd jm_Mo_na (fun _ => jm_Mo_wr jm_p_st (jm_Mo_bd jm_Mo_na (fun _ => jm_Mo_wr jm_p_st (jm_Mo_bd jm_Mo_na (fun _ => jm_Mo_wr jm_p_st (jm_Mo_bd jm_Mo_na (fun _ => jm_Mo_wr jm_p_st (jm_Mo_bd jm_Mo_na (fun _ => jm_Mo_wr jm_p_st (jm_Mo_bd jm_Mo_na (fun _ => jm_Mo_wr jm_p_st (jm_Mo_rd (fun _ => jm_Mo_bd (moX8_begins _ _) (fun _ => jm_Mo_ret _))))))))))))))))))))))))))))))))))))))
  refine jw_naI C hJ hS h9 (jm_w C 8 rfl) (by show cells + 1 ≤ mc; omega) (by show slots + _ ≤ ms; omega) dX8_init_32 (fun H hJ hS => ?_)
  replace hc1 : cells + 1 + n0 ≤ S9.2.1 := by omega
  replace hc2 : slots + (5 : Int32).toNatClampNeg + m0 ≤ S9.2.2.1 := by omega
  generalize cells + 1 = cells at hc1 ⊢
  generalize slots + (5 : Int32).toNatClampNeg = slots at hc2 ⊢
  obtain ⟨S10, h10, hf⟩ := jm_wr_ok hf
  have e10 := jm_p_st _ _ h10
  rw [← e10] at hc1 hc2
  refine jw_pF (x := .inr q9) (ty := (.array .int)) (Cn := RX8) (T := TX8) (N := 29) C hJ hS h10 rfl inX8_init_X8 tyX8 tyX8_ok nmX8 (by decide) (jm_w C 10 rfl) (fun _ h => h) rfl hi rfl (by decide +kernel) (jm_nra _ q9).1 (jm_nra _ q9).2 dX8_init_34 (fun H locs hJ hS => ?_)
  refine jw_aload_n C dX8_init_37 rfl (hl.at 0 rfl) ?_
  refine lv_iconst (v := 5) C.1 C.2.1 dX8_init_38 (by decide) ?_
  obtain ⟨q11, S11, h11, hf⟩ := jm_bd_ok hf
  have e11 := jm_na_st h11
  have g11 := jm_mo hf (jm_Mo_wr jm_p_st (jm_Mo_bd jm_Mo_na (fun _ => jm_Mo_wr jm_p_st (jm_Mo_bd jm_Mo_na (fun _ => jm_Mo_wr jm_p_st (jm_Mo_bd jm_Mo_na (fun _ => jm_Mo_wr jm_p_st (jm_Mo_bd jm_Mo_na (fun _ => jm_Mo_wr jm_p_st (jm_Mo_bd jm_Mo_na (fun _ => jm_Mo_wr jm_p_st (jm_Mo_bd jm_Mo_na (fun _ => jm_Mo_wr jm_p_st (jm_Mo_bd jm_Mo_na (fun _ => jm_Mo_wr jm_p_st (jm_Mo_bd jm_Mo_na (fun _ => jm_Mo_wr jm_p_st (jm_Mo_bd jm_Mo_na (fun _ => jm_Mo_wr jm_p_st (jm_Mo_bd jm_Mo_na (fun _ => jm_Mo_wr jm_p_st (jm_Mo_bd jm_Mo_na (fun _ => jm_Mo_wr jm_p_st (jm_Mo_bd jm_Mo_na (fun _ => jm_Mo_wr jm_p_st (jm_Mo_bd jm_Mo_na (fun _ => jm_Mo_wr jm_p_st (jm_Mo_bd jm_Mo_na (fun _ => jm_Mo_wr jm_p_st (jm_Mo_bd jm_Mo_na (fun _ => jm_Mo_wr jm_p_st (jm_Mo_bd jm_Mo_na (fun _ => jm_Mo_wr jm_p_st (jm_Mo_rd (fun _ => jm_Mo_bd (moX8_begins _ _) (fun _ => jm_Mo_ret _))))))))))))))))))))))))))))))))))))
  refine jw_naI C hJ hS h11 (jm_w C 8 rfl) (by show cells + 1 ≤ mc; omega) (by show slots + _ ≤ ms; omega) dX8_init_39 (fun H hJ hS => ?_)
  replace hc1 : cells + 1 + n0 ≤ S11.2.1 := by omega
  replace hc2 : slots + (5 : Int32).toNatClampNeg + m0 ≤ S11.2.2.1 := by omega
  generalize cells + 1 = cells at hc1 ⊢
  generalize slots + (5 : Int32).toNatClampNeg = slots at hc2 ⊢
  obtain ⟨S12, h12, hf⟩ := jm_wr_ok hf
  have e12 := jm_p_st _ _ h12
  rw [← e12] at hc1 hc2
  refine jw_pF (x := .inr q11) (ty := (.array .int)) (Cn := RX8) (T := TX8) (N := 29) C hJ hS h12 rfl inX8_init_X8 tyX8 tyX8_ok nmX8 (by decide) (jm_w C 11 rfl) (fun _ h => h) rfl hi rfl (by decide +kernel) (jm_nra _ q11).1 (jm_nra _ q11).2 dX8_init_41 (fun H locs hJ hS => ?_)
  refine jw_aload_n C dX8_init_44 rfl (hl.at 0 rfl) ?_
  refine lv_sipush (v := 200) C.1 C.2.1 dX8_init_45 (by decide) ?_
  obtain ⟨q13, S13, h13, hf⟩ := jm_bd_ok hf
  have e13 := jm_na_st h13
  have g13 := jm_mo hf (jm_Mo_wr jm_p_st (jm_Mo_bd jm_Mo_na (fun _ => jm_Mo_wr jm_p_st (jm_Mo_bd jm_Mo_na (fun _ => jm_Mo_wr jm_p_st (jm_Mo_bd jm_Mo_na (fun _ => jm_Mo_wr jm_p_st (jm_Mo_bd jm_Mo_na (fun _ => jm_Mo_wr jm_p_st (jm_Mo_bd jm_Mo_na (fun _ => jm_Mo_wr jm_p_st (jm_Mo_bd jm_Mo_na (fun _ => jm_Mo_wr jm_p_st (jm_Mo_bd jm_Mo_na (fun _ => jm_Mo_wr jm_p_st (jm_Mo_bd jm_Mo_na (fun _ => jm_Mo_wr jm_p_st (jm_Mo_bd jm_Mo_na (fun _ => jm_Mo_wr jm_p_st (jm_Mo_bd jm_Mo_na (fun _ => jm_Mo_wr jm_p_st (jm_Mo_bd jm_Mo_na (fun _ => jm_Mo_wr jm_p_st (jm_Mo_bd jm_Mo_na (fun _ => jm_Mo_wr jm_p_st (jm_Mo_bd jm_Mo_na (fun _ => jm_Mo_wr jm_p_st (jm_Mo_bd jm_Mo_na (fun _ => jm_Mo_wr jm_p_st (jm_Mo_bd jm_Mo_na (fun _ => jm_Mo_wr jm_p_st (jm_Mo_rd (fun _ => jm_Mo_bd (moX8_begins _ _) (fun _ => jm_Mo_ret _))))))))))))))))))))))))))))))))))
  refine jw_naI C hJ hS h13 (jm_w C 8 rfl) (by show cells + 1 ≤ mc; omega) (by show slots + _ ≤ ms; omega) dX8_init_48 (fun H hJ hS => ?_)
  replace hc1 : cells + 1 + n0 ≤ S13.2.1 := by omega
  replace hc2 : slots + (200 : Int32).toNatClampNeg + m0 ≤ S13.2.2.1 := by omega
  generalize cells + 1 = cells at hc1 ⊢
  generalize slots + (200 : Int32).toNatClampNeg = slots at hc2 ⊢
  obtain ⟨S14, h14, hf⟩ := jm_wr_ok hf
  have e14 := jm_p_st _ _ h14
  rw [← e14] at hc1 hc2
  refine jw_pF (x := .inr q13) (ty := (.array .int)) (Cn := RX8) (T := TX8) (N := 29) C hJ hS h14 rfl inX8_init_X8 tyX8 tyX8_ok nmX8 (by decide) (jm_w C 12 rfl) (fun _ h => h) rfl hi rfl (by decide +kernel) (jm_nra _ q13).1 (jm_nra _ q13).2 dX8_init_50 (fun H locs hJ hS => ?_)
  refine jw_aload_n C dX8_init_53 rfl (hl.at 0 rfl) ?_
  refine lv_sipush (v := 200) C.1 C.2.1 dX8_init_54 (by decide) ?_
  obtain ⟨q15, S15, h15, hf⟩ := jm_bd_ok hf
  have e15 := jm_na_st h15
  have g15 := jm_mo hf (jm_Mo_wr jm_p_st (jm_Mo_bd jm_Mo_na (fun _ => jm_Mo_wr jm_p_st (jm_Mo_bd jm_Mo_na (fun _ => jm_Mo_wr jm_p_st (jm_Mo_bd jm_Mo_na (fun _ => jm_Mo_wr jm_p_st (jm_Mo_bd jm_Mo_na (fun _ => jm_Mo_wr jm_p_st (jm_Mo_bd jm_Mo_na (fun _ => jm_Mo_wr jm_p_st (jm_Mo_bd jm_Mo_na (fun _ => jm_Mo_wr jm_p_st (jm_Mo_bd jm_Mo_na (fun _ => jm_Mo_wr jm_p_st (jm_Mo_bd jm_Mo_na (fun _ => jm_Mo_wr jm_p_st (jm_Mo_bd jm_Mo_na (fun _ => jm_Mo_wr jm_p_st (jm_Mo_bd jm_Mo_na (fun _ => jm_Mo_wr jm_p_st (jm_Mo_bd jm_Mo_na (fun _ => jm_Mo_wr jm_p_st (jm_Mo_bd jm_Mo_na (fun _ => jm_Mo_wr jm_p_st (jm_Mo_bd jm_Mo_na (fun _ => jm_Mo_wr jm_p_st (jm_Mo_bd jm_Mo_na (fun _ => jm_Mo_wr jm_p_st (jm_Mo_rd (fun _ => jm_Mo_bd (moX8_begins _ _) (fun _ => jm_Mo_ret _))))))))))))))))))))))))))))))))
  refine jw_naI C hJ hS h15 (jm_w C 8 rfl) (by show cells + 1 ≤ mc; omega) (by show slots + _ ≤ ms; omega) dX8_init_57 (fun H hJ hS => ?_)
  replace hc1 : cells + 1 + n0 ≤ S15.2.1 := by omega
  replace hc2 : slots + (200 : Int32).toNatClampNeg + m0 ≤ S15.2.2.1 := by omega
  generalize cells + 1 = cells at hc1 ⊢
  generalize slots + (200 : Int32).toNatClampNeg = slots at hc2 ⊢
  obtain ⟨S16, h16, hf⟩ := jm_wr_ok hf
  have e16 := jm_p_st _ _ h16
  rw [← e16] at hc1 hc2
  refine jw_pF (x := .inr q15) (ty := (.array .int)) (Cn := RX8) (T := TX8) (N := 29) C hJ hS h16 rfl inX8_init_X8 tyX8 tyX8_ok nmX8 (by decide) (jm_w C 13 rfl) (fun _ h => h) rfl hi rfl (by decide +kernel) (jm_nra _ q15).1 (jm_nra _ q15).2 dX8_init_59 (fun H locs hJ hS => ?_)
  refine jw_aload_n C dX8_init_62 rfl (hl.at 0 rfl) ?_
  refine lv_sipush (v := 200) C.1 C.2.1 dX8_init_63 (by decide) ?_
  obtain ⟨q17, S17, h17, hf⟩ := jm_bd_ok hf
  have e17 := jm_na_st h17
  have g17 := jm_mo hf (jm_Mo_wr jm_p_st (jm_Mo_bd jm_Mo_na (fun _ => jm_Mo_wr jm_p_st (jm_Mo_bd jm_Mo_na (fun _ => jm_Mo_wr jm_p_st (jm_Mo_bd jm_Mo_na (fun _ => jm_Mo_wr jm_p_st (jm_Mo_bd jm_Mo_na (fun _ => jm_Mo_wr jm_p_st (jm_Mo_bd jm_Mo_na (fun _ => jm_Mo_wr jm_p_st (jm_Mo_bd jm_Mo_na (fun _ => jm_Mo_wr jm_p_st (jm_Mo_bd jm_Mo_na (fun _ => jm_Mo_wr jm_p_st (jm_Mo_bd jm_Mo_na (fun _ => jm_Mo_wr jm_p_st (jm_Mo_bd jm_Mo_na (fun _ => jm_Mo_wr jm_p_st (jm_Mo_bd jm_Mo_na (fun _ => jm_Mo_wr jm_p_st (jm_Mo_bd jm_Mo_na (fun _ => jm_Mo_wr jm_p_st (jm_Mo_bd jm_Mo_na (fun _ => jm_Mo_wr jm_p_st (jm_Mo_bd jm_Mo_na (fun _ => jm_Mo_wr jm_p_st (jm_Mo_rd (fun _ => jm_Mo_bd (moX8_begins _ _) (fun _ => jm_Mo_ret _))))))))))))))))))))))))))))))
  refine jw_naI C hJ hS h17 (jm_w C 8 rfl) (by show cells + 1 ≤ mc; omega) (by show slots + _ ≤ ms; omega) dX8_init_66 (fun H hJ hS => ?_)
  replace hc1 : cells + 1 + n0 ≤ S17.2.1 := by omega
  replace hc2 : slots + (200 : Int32).toNatClampNeg + m0 ≤ S17.2.2.1 := by omega
  generalize cells + 1 = cells at hc1 ⊢
  generalize slots + (200 : Int32).toNatClampNeg = slots at hc2 ⊢
  obtain ⟨S18, h18, hf⟩ := jm_wr_ok hf
  have e18 := jm_p_st _ _ h18
  rw [← e18] at hc1 hc2
  refine jw_pF (x := .inr q17) (ty := (.array .int)) (Cn := RX8) (T := TX8) (N := 29) C hJ hS h18 rfl inX8_init_X8 tyX8 tyX8_ok nmX8 (by decide) (jm_w C 14 rfl) (fun _ h => h) rfl hi rfl (by decide +kernel) (jm_nra _ q17).1 (jm_nra _ q17).2 dX8_init_68 (fun H locs hJ hS => ?_)
  refine jw_aload_n C dX8_init_71 rfl (hl.at 0 rfl) ?_
  refine lv_sipush (v := 200) C.1 C.2.1 dX8_init_72 (by decide) ?_
  obtain ⟨q19, S19, h19, hf⟩ := jm_bd_ok hf
  have e19 := jm_na_st h19
  have g19 := jm_mo hf (jm_Mo_wr jm_p_st (jm_Mo_bd jm_Mo_na (fun _ => jm_Mo_wr jm_p_st (jm_Mo_bd jm_Mo_na (fun _ => jm_Mo_wr jm_p_st (jm_Mo_bd jm_Mo_na (fun _ => jm_Mo_wr jm_p_st (jm_Mo_bd jm_Mo_na (fun _ => jm_Mo_wr jm_p_st (jm_Mo_bd jm_Mo_na (fun _ => jm_Mo_wr jm_p_st (jm_Mo_bd jm_Mo_na (fun _ => jm_Mo_wr jm_p_st (jm_Mo_bd jm_Mo_na (fun _ => jm_Mo_wr jm_p_st (jm_Mo_bd jm_Mo_na (fun _ => jm_Mo_wr jm_p_st (jm_Mo_bd jm_Mo_na (fun _ => jm_Mo_wr jm_p_st (jm_Mo_bd jm_Mo_na (fun _ => jm_Mo_wr jm_p_st (jm_Mo_bd jm_Mo_na (fun _ => jm_Mo_wr jm_p_st (jm_Mo_bd jm_Mo_na (fun _ => jm_Mo_wr jm_p_st (jm_Mo_rd (fun _ => jm_Mo_bd (moX8_begins _ _) (fun _ => jm_Mo_ret _))))))))))))))))))))))))))))
  refine jw_naI C hJ hS h19 (jm_w C 8 rfl) (by show cells + 1 ≤ mc; omega) (by show slots + _ ≤ ms; omega) dX8_init_75 (fun H hJ hS => ?_)
  replace hc1 : cells + 1 + n0 ≤ S19.2.1 := by omega
  replace hc2 : slots + (200 : Int32).toNatClampNeg + m0 ≤ S19.2.2.1 := by omega
  generalize cells + 1 = cells at hc1 ⊢
  generalize slots + (200 : Int32).toNatClampNeg = slots at hc2 ⊢
  obtain ⟨S20, h20, hf⟩ := jm_wr_ok hf
  have e20 := jm_p_st _ _ h20
  rw [← e20] at hc1 hc2
  refine jw_pF (x := .inr q19) (ty := (.array .int)) (Cn := RX8) (T := TX8) (N := 29) C hJ hS h20 rfl inX8_init_X8 tyX8 tyX8_ok nmX8 (by decide) (jm_w C 15 rfl) (fun _ h => h) rfl hi rfl (by decide +kernel) (jm_nra _ q19).1 (jm_nra _ q19).2 dX8_init_77 (fun H locs hJ hS => ?_)
  refine jw_aload_n C dX8_init_80 rfl (hl.at 0 rfl) ?_
  refine lv_sipush (v := 200) C.1 C.2.1 dX8_init_81 (by decide) ?_
  obtain ⟨q21, S21, h21, hf⟩ := jm_bd_ok hf
  have e21 := jm_na_st h21
  have g21 := jm_mo hf (jm_Mo_wr jm_p_st (jm_Mo_bd jm_Mo_na (fun _ => jm_Mo_wr jm_p_st (jm_Mo_bd jm_Mo_na (fun _ => jm_Mo_wr jm_p_st (jm_Mo_bd jm_Mo_na (fun _ => jm_Mo_wr jm_p_st (jm_Mo_bd jm_Mo_na (fun _ => jm_Mo_wr jm_p_st (jm_Mo_bd jm_Mo_na (fun _ => jm_Mo_wr jm_p_st (jm_Mo_bd jm_Mo_na (fun _ => jm_Mo_wr jm_p_st (jm_Mo_bd jm_Mo_na (fun _ => jm_Mo_wr jm_p_st (jm_Mo_bd jm_Mo_na (fun _ => jm_Mo_wr jm_p_st (jm_Mo_bd jm_Mo_na (fun _ => jm_Mo_wr jm_p_st (jm_Mo_bd jm_Mo_na (fun _ => jm_Mo_wr jm_p_st (jm_Mo_bd jm_Mo_na (fun _ => jm_Mo_wr jm_p_st (jm_Mo_rd (fun _ => jm_Mo_bd (moX8_begins _ _) (fun _ => jm_Mo_ret _))))))))))))))))))))))))))
  refine jw_naI C hJ hS h21 (jm_w C 8 rfl) (by show cells + 1 ≤ mc; omega) (by show slots + _ ≤ ms; omega) dX8_init_84 (fun H hJ hS => ?_)
  replace hc1 : cells + 1 + n0 ≤ S21.2.1 := by omega
  replace hc2 : slots + (200 : Int32).toNatClampNeg + m0 ≤ S21.2.2.1 := by omega
  generalize cells + 1 = cells at hc1 ⊢
  generalize slots + (200 : Int32).toNatClampNeg = slots at hc2 ⊢
  obtain ⟨S22, h22, hf⟩ := jm_wr_ok hf
  have e22 := jm_p_st _ _ h22
  rw [← e22] at hc1 hc2
  refine jw_pF (x := .inr q21) (ty := (.array .int)) (Cn := RX8) (T := TX8) (N := 29) C hJ hS h22 rfl inX8_init_X8 tyX8 tyX8_ok nmX8 (by decide) (jm_w C 16 rfl) (fun _ h => h) rfl hi rfl (by decide +kernel) (jm_nra _ q21).1 (jm_nra _ q21).2 dX8_init_86 (fun H locs hJ hS => ?_)
  refine jw_aload_n C dX8_init_89 rfl (hl.at 0 rfl) ?_
  refine lv_bipush (v := 6) C.1 C.2.1 dX8_init_90 (by decide) ?_
  obtain ⟨q23, S23, h23, hf⟩ := jm_bd_ok hf
  have e23 := jm_na_st h23
  have g23 := jm_mo hf (jm_Mo_wr jm_p_st (jm_Mo_bd jm_Mo_na (fun _ => jm_Mo_wr jm_p_st (jm_Mo_bd jm_Mo_na (fun _ => jm_Mo_wr jm_p_st (jm_Mo_bd jm_Mo_na (fun _ => jm_Mo_wr jm_p_st (jm_Mo_bd jm_Mo_na (fun _ => jm_Mo_wr jm_p_st (jm_Mo_bd jm_Mo_na (fun _ => jm_Mo_wr jm_p_st (jm_Mo_bd jm_Mo_na (fun _ => jm_Mo_wr jm_p_st (jm_Mo_bd jm_Mo_na (fun _ => jm_Mo_wr jm_p_st (jm_Mo_bd jm_Mo_na (fun _ => jm_Mo_wr jm_p_st (jm_Mo_bd jm_Mo_na (fun _ => jm_Mo_wr jm_p_st (jm_Mo_bd jm_Mo_na (fun _ => jm_Mo_wr jm_p_st (jm_Mo_rd (fun _ => jm_Mo_bd (moX8_begins _ _) (fun _ => jm_Mo_ret _))))))))))))))))))))))))
  refine jw_naI C hJ hS h23 (jm_w C 8 rfl) (by show cells + 1 ≤ mc; omega) (by show slots + _ ≤ ms; omega) dX8_init_92 (fun H hJ hS => ?_)
  replace hc1 : cells + 1 + n0 ≤ S23.2.1 := by omega
  replace hc2 : slots + (6 : Int32).toNatClampNeg + m0 ≤ S23.2.2.1 := by omega
  generalize cells + 1 = cells at hc1 ⊢
  generalize slots + (6 : Int32).toNatClampNeg = slots at hc2 ⊢
  obtain ⟨S24, h24, hf⟩ := jm_wr_ok hf
  have e24 := jm_p_st _ _ h24
  rw [← e24] at hc1 hc2
  refine jw_pF (x := .inr q23) (ty := (.array .int)) (Cn := RX8) (T := TX8) (N := 29) C hJ hS h24 rfl inX8_init_X8 tyX8 tyX8_ok nmX8 (by decide) (jm_w C 17 rfl) (fun _ h => h) rfl hi rfl (by decide +kernel) (jm_nra _ q23).1 (jm_nra _ q23).2 dX8_init_94 (fun H locs hJ hS => ?_)
  refine jw_aload_n C dX8_init_97 rfl (hl.at 0 rfl) ?_
  refine lv_bipush (v := 72) C.1 C.2.1 dX8_init_98 (by decide) ?_
  obtain ⟨q25, S25, h25, hf⟩ := jm_bd_ok hf
  have e25 := jm_na_st h25
  have g25 := jm_mo hf (jm_Mo_wr jm_p_st (jm_Mo_bd jm_Mo_na (fun _ => jm_Mo_wr jm_p_st (jm_Mo_bd jm_Mo_na (fun _ => jm_Mo_wr jm_p_st (jm_Mo_bd jm_Mo_na (fun _ => jm_Mo_wr jm_p_st (jm_Mo_bd jm_Mo_na (fun _ => jm_Mo_wr jm_p_st (jm_Mo_bd jm_Mo_na (fun _ => jm_Mo_wr jm_p_st (jm_Mo_bd jm_Mo_na (fun _ => jm_Mo_wr jm_p_st (jm_Mo_bd jm_Mo_na (fun _ => jm_Mo_wr jm_p_st (jm_Mo_bd jm_Mo_na (fun _ => jm_Mo_wr jm_p_st (jm_Mo_bd jm_Mo_na (fun _ => jm_Mo_wr jm_p_st (jm_Mo_rd (fun _ => jm_Mo_bd (moX8_begins _ _) (fun _ => jm_Mo_ret _))))))))))))))))))))))
  refine jw_naI C hJ hS h25 (jm_w C 8 rfl) (by show cells + 1 ≤ mc; omega) (by show slots + _ ≤ ms; omega) dX8_init_100 (fun H hJ hS => ?_)
  replace hc1 : cells + 1 + n0 ≤ S25.2.1 := by omega
  replace hc2 : slots + (72 : Int32).toNatClampNeg + m0 ≤ S25.2.2.1 := by omega
  generalize cells + 1 = cells at hc1 ⊢
  generalize slots + (72 : Int32).toNatClampNeg = slots at hc2 ⊢
  obtain ⟨S26, h26, hf⟩ := jm_wr_ok hf
  have e26 := jm_p_st _ _ h26
  rw [← e26] at hc1 hc2
  refine jw_pF (x := .inr q25) (ty := (.array .int)) (Cn := RX8) (T := TX8) (N := 29) C hJ hS h26 rfl inX8_init_X8 tyX8 tyX8_ok nmX8 (by decide) (jm_w C 18 rfl) (fun _ h => h) rfl hi rfl (by decide +kernel) (jm_nra _ q25).1 (jm_nra _ q25).2 dX8_init_102 (fun H locs hJ hS => ?_)
  refine jw_aload_n C dX8_init_105 rfl (hl.at 0 rfl) ?_
  refine lv_bipush (v := 72) C.1 C.2.1 dX8_init_106 (by decide) ?_
  obtain ⟨q27, S27, h27, hf⟩ := jm_bd_ok hf
  have e27 := jm_na_st h27
  have g27 := jm_mo hf (jm_Mo_wr jm_p_st (jm_Mo_bd jm_Mo_na (fun _ => jm_Mo_wr jm_p_st (jm_Mo_bd jm_Mo_na (fun _ => jm_Mo_wr jm_p_st (jm_Mo_bd jm_Mo_na (fun _ => jm_Mo_wr jm_p_st (jm_Mo_bd jm_Mo_na (fun _ => jm_Mo_wr jm_p_st (jm_Mo_bd jm_Mo_na (fun _ => jm_Mo_wr jm_p_st (jm_Mo_bd jm_Mo_na (fun _ => jm_Mo_wr jm_p_st (jm_Mo_bd jm_Mo_na (fun _ => jm_Mo_wr jm_p_st (jm_Mo_bd jm_Mo_na (fun _ => jm_Mo_wr jm_p_st (jm_Mo_rd (fun _ => jm_Mo_bd (moX8_begins _ _) (fun _ => jm_Mo_ret _))))))))))))))))))))
  refine jw_naI C hJ hS h27 (jm_w C 8 rfl) (by show cells + 1 ≤ mc; omega) (by show slots + _ ≤ ms; omega) dX8_init_108 (fun H hJ hS => ?_)
  replace hc1 : cells + 1 + n0 ≤ S27.2.1 := by omega
  replace hc2 : slots + (72 : Int32).toNatClampNeg + m0 ≤ S27.2.2.1 := by omega
  generalize cells + 1 = cells at hc1 ⊢
  generalize slots + (72 : Int32).toNatClampNeg = slots at hc2 ⊢
  obtain ⟨S28, h28, hf⟩ := jm_wr_ok hf
  have e28 := jm_p_st _ _ h28
  rw [← e28] at hc1 hc2
  refine jw_pF (x := .inr q27) (ty := (.array .int)) (Cn := RX8) (T := TX8) (N := 29) C hJ hS h28 rfl inX8_init_X8 tyX8 tyX8_ok nmX8 (by decide) (jm_w C 19 rfl) (fun _ h => h) rfl hi rfl (by decide +kernel) (jm_nra _ q27).1 (jm_nra _ q27).2 dX8_init_110 (fun H locs hJ hS => ?_)
  refine jw_aload_n C dX8_init_113 rfl (hl.at 0 rfl) ?_
  refine lv_bipush (v := 72) C.1 C.2.1 dX8_init_114 (by decide) ?_
  obtain ⟨q29, S29, h29, hf⟩ := jm_bd_ok hf
  have e29 := jm_na_st h29
  have g29 := jm_mo hf (jm_Mo_wr jm_p_st (jm_Mo_bd jm_Mo_na (fun _ => jm_Mo_wr jm_p_st (jm_Mo_bd jm_Mo_na (fun _ => jm_Mo_wr jm_p_st (jm_Mo_bd jm_Mo_na (fun _ => jm_Mo_wr jm_p_st (jm_Mo_bd jm_Mo_na (fun _ => jm_Mo_wr jm_p_st (jm_Mo_bd jm_Mo_na (fun _ => jm_Mo_wr jm_p_st (jm_Mo_bd jm_Mo_na (fun _ => jm_Mo_wr jm_p_st (jm_Mo_bd jm_Mo_na (fun _ => jm_Mo_wr jm_p_st (jm_Mo_rd (fun _ => jm_Mo_bd (moX8_begins _ _) (fun _ => jm_Mo_ret _))))))))))))))))))
  refine jw_naI C hJ hS h29 (jm_w C 8 rfl) (by show cells + 1 ≤ mc; omega) (by show slots + _ ≤ ms; omega) dX8_init_116 (fun H hJ hS => ?_)
  replace hc1 : cells + 1 + n0 ≤ S29.2.1 := by omega
  replace hc2 : slots + (72 : Int32).toNatClampNeg + m0 ≤ S29.2.2.1 := by omega
  generalize cells + 1 = cells at hc1 ⊢
  generalize slots + (72 : Int32).toNatClampNeg = slots at hc2 ⊢
  obtain ⟨S30, h30, hf⟩ := jm_wr_ok hf
  have e30 := jm_p_st _ _ h30
  rw [← e30] at hc1 hc2
  refine jw_pF (x := .inr q29) (ty := (.array .int)) (Cn := RX8) (T := TX8) (N := 29) C hJ hS h30 rfl inX8_init_X8 tyX8 tyX8_ok nmX8 (by decide) (jm_w C 20 rfl) (fun _ h => h) rfl hi rfl (by decide +kernel) (jm_nra _ q29).1 (jm_nra _ q29).2 dX8_init_118 (fun H locs hJ hS => ?_)
  refine jw_aload_n C dX8_init_121 rfl (hl.at 0 rfl) ?_
  refine lv_bipush (v := 72) C.1 C.2.1 dX8_init_122 (by decide) ?_
  obtain ⟨q31, S31, h31, hf⟩ := jm_bd_ok hf
  have e31 := jm_na_st h31
  have g31 := jm_mo hf (jm_Mo_wr jm_p_st (jm_Mo_bd jm_Mo_na (fun _ => jm_Mo_wr jm_p_st (jm_Mo_bd jm_Mo_na (fun _ => jm_Mo_wr jm_p_st (jm_Mo_bd jm_Mo_na (fun _ => jm_Mo_wr jm_p_st (jm_Mo_bd jm_Mo_na (fun _ => jm_Mo_wr jm_p_st (jm_Mo_bd jm_Mo_na (fun _ => jm_Mo_wr jm_p_st (jm_Mo_bd jm_Mo_na (fun _ => jm_Mo_wr jm_p_st (jm_Mo_rd (fun _ => jm_Mo_bd (moX8_begins _ _) (fun _ => jm_Mo_ret _))))))))))))))))
  refine jw_naI C hJ hS h31 (jm_w C 8 rfl) (by show cells + 1 ≤ mc; omega) (by show slots + _ ≤ ms; omega) dX8_init_124 (fun H hJ hS => ?_)
  replace hc1 : cells + 1 + n0 ≤ S31.2.1 := by omega
  replace hc2 : slots + (72 : Int32).toNatClampNeg + m0 ≤ S31.2.2.1 := by omega
  generalize cells + 1 = cells at hc1 ⊢
  generalize slots + (72 : Int32).toNatClampNeg = slots at hc2 ⊢
  obtain ⟨S32, h32, hf⟩ := jm_wr_ok hf
  have e32 := jm_p_st _ _ h32
  rw [← e32] at hc1 hc2
  refine jw_pF (x := .inr q31) (ty := (.array .int)) (Cn := RX8) (T := TX8) (N := 29) C hJ hS h32 rfl inX8_init_X8 tyX8 tyX8_ok nmX8 (by decide) (jm_w C 21 rfl) (fun _ h => h) rfl hi rfl (by decide +kernel) (jm_nra _ q31).1 (jm_nra _ q31).2 dX8_init_126 (fun H locs hJ hS => ?_)
  refine jw_aload_n C dX8_init_129 rfl (hl.at 0 rfl) ?_
  refine lv_iconst (v := 4) C.1 C.2.1 dX8_init_130 (by decide) ?_
  obtain ⟨q33, S33, h33, hf⟩ := jm_bd_ok hf
  have e33 := jm_na_st h33
  have g33 := jm_mo hf (jm_Mo_wr jm_p_st (jm_Mo_bd jm_Mo_na (fun _ => jm_Mo_wr jm_p_st (jm_Mo_bd jm_Mo_na (fun _ => jm_Mo_wr jm_p_st (jm_Mo_bd jm_Mo_na (fun _ => jm_Mo_wr jm_p_st (jm_Mo_bd jm_Mo_na (fun _ => jm_Mo_wr jm_p_st (jm_Mo_bd jm_Mo_na (fun _ => jm_Mo_wr jm_p_st (jm_Mo_rd (fun _ => jm_Mo_bd (moX8_begins _ _) (fun _ => jm_Mo_ret _))))))))))))))
  refine jw_naI C hJ hS h33 (jm_w C 8 rfl) (by show cells + 1 ≤ mc; omega) (by show slots + _ ≤ ms; omega) dX8_init_131 (fun H hJ hS => ?_)
  replace hc1 : cells + 1 + n0 ≤ S33.2.1 := by omega
  replace hc2 : slots + (4 : Int32).toNatClampNeg + m0 ≤ S33.2.2.1 := by omega
  generalize cells + 1 = cells at hc1 ⊢
  generalize slots + (4 : Int32).toNatClampNeg = slots at hc2 ⊢
  obtain ⟨S34, h34, hf⟩ := jm_wr_ok hf
  have e34 := jm_p_st _ _ h34
  rw [← e34] at hc1 hc2
  refine jw_pF (x := .inr q33) (ty := (.array .int)) (Cn := RX8) (T := TX8) (N := 29) C hJ hS h34 rfl inX8_init_X8 tyX8 tyX8_ok nmX8 (by decide) (jm_w C 22 rfl) (fun _ h => h) rfl hi rfl (by decide +kernel) (jm_nra _ q33).1 (jm_nra _ q33).2 dX8_init_133 (fun H locs hJ hS => ?_)
  refine jw_aload_n C dX8_init_136 rfl (hl.at 0 rfl) ?_
  refine lv_bipush (v := 6) C.1 C.2.1 dX8_init_137 (by decide) ?_
  obtain ⟨q35, S35, h35, hf⟩ := jm_bd_ok hf
  have e35 := jm_na_st h35
  have g35 := jm_mo hf (jm_Mo_wr jm_p_st (jm_Mo_bd jm_Mo_na (fun _ => jm_Mo_wr jm_p_st (jm_Mo_bd jm_Mo_na (fun _ => jm_Mo_wr jm_p_st (jm_Mo_bd jm_Mo_na (fun _ => jm_Mo_wr jm_p_st (jm_Mo_bd jm_Mo_na (fun _ => jm_Mo_wr jm_p_st (jm_Mo_rd (fun _ => jm_Mo_bd (moX8_begins _ _) (fun _ => jm_Mo_ret _))))))))))))
  refine jw_naI C hJ hS h35 (jm_w C 8 rfl) (by show cells + 1 ≤ mc; omega) (by show slots + _ ≤ ms; omega) dX8_init_139 (fun H hJ hS => ?_)
  replace hc1 : cells + 1 + n0 ≤ S35.2.1 := by omega
  replace hc2 : slots + (6 : Int32).toNatClampNeg + m0 ≤ S35.2.2.1 := by omega
  generalize cells + 1 = cells at hc1 ⊢
  generalize slots + (6 : Int32).toNatClampNeg = slots at hc2 ⊢
  obtain ⟨S36, h36, hf⟩ := jm_wr_ok hf
  have e36 := jm_p_st _ _ h36
  rw [← e36] at hc1 hc2
  refine jw_pF (x := .inr q35) (ty := (.array .int)) (Cn := RX8) (T := TX8) (N := 29) C hJ hS h36 rfl inX8_init_X8 tyX8 tyX8_ok nmX8 (by decide) (jm_w C 23 rfl) (fun _ h => h) rfl hi rfl (by decide +kernel) (jm_nra _ q35).1 (jm_nra _ q35).2 dX8_init_141 (fun H locs hJ hS => ?_)
  refine jw_aload_n C dX8_init_144 rfl (hl.at 0 rfl) ?_
  refine lv_bipush (v := 48) C.1 C.2.1 dX8_init_145 (by decide) ?_
  obtain ⟨q37, S37, h37, hf⟩ := jm_bd_ok hf
  have e37 := jm_na_st h37
  have g37 := jm_mo hf (jm_Mo_wr jm_p_st (jm_Mo_bd jm_Mo_na (fun _ => jm_Mo_wr jm_p_st (jm_Mo_bd jm_Mo_na (fun _ => jm_Mo_wr jm_p_st (jm_Mo_bd jm_Mo_na (fun _ => jm_Mo_wr jm_p_st (jm_Mo_rd (fun _ => jm_Mo_bd (moX8_begins _ _) (fun _ => jm_Mo_ret _))))))))))
  refine jw_naI C hJ hS h37 (jm_w C 8 rfl) (by show cells + 1 ≤ mc; omega) (by show slots + _ ≤ ms; omega) dX8_init_147 (fun H hJ hS => ?_)
  replace hc1 : cells + 1 + n0 ≤ S37.2.1 := by omega
  replace hc2 : slots + (48 : Int32).toNatClampNeg + m0 ≤ S37.2.2.1 := by omega
  generalize cells + 1 = cells at hc1 ⊢
  generalize slots + (48 : Int32).toNatClampNeg = slots at hc2 ⊢
  obtain ⟨S38, h38, hf⟩ := jm_wr_ok hf
  have e38 := jm_p_st _ _ h38
  rw [← e38] at hc1 hc2
  refine jw_pF (x := .inr q37) (ty := (.array .int)) (Cn := RX8) (T := TX8) (N := 29) C hJ hS h38 rfl inX8_init_X8 tyX8 tyX8_ok nmX8 (by decide) (jm_w C 24 rfl) (fun _ h => h) rfl hi rfl (by decide +kernel) (jm_nra _ q37).1 (jm_nra _ q37).2 dX8_init_149 (fun H locs hJ hS => ?_)
  refine jw_aload_n C dX8_init_152 rfl (hl.at 0 rfl) ?_
  refine lv_bipush (v := 10) C.1 C.2.1 dX8_init_153 (by decide) ?_
  obtain ⟨q39, S39, h39, hf⟩ := jm_bd_ok hf
  have e39 := jm_na_st h39
  have g39 := jm_mo hf (jm_Mo_wr jm_p_st (jm_Mo_bd jm_Mo_na (fun _ => jm_Mo_wr jm_p_st (jm_Mo_bd jm_Mo_na (fun _ => jm_Mo_wr jm_p_st (jm_Mo_rd (fun _ => jm_Mo_bd (moX8_begins _ _) (fun _ => jm_Mo_ret _))))))))
  refine jw_naI C hJ hS h39 (jm_w C 8 rfl) (by show cells + 1 ≤ mc; omega) (by show slots + _ ≤ ms; omega) dX8_init_155 (fun H hJ hS => ?_)
  replace hc1 : cells + 1 + n0 ≤ S39.2.1 := by omega
  replace hc2 : slots + (10 : Int32).toNatClampNeg + m0 ≤ S39.2.2.1 := by omega
  generalize cells + 1 = cells at hc1 ⊢
  generalize slots + (10 : Int32).toNatClampNeg = slots at hc2 ⊢
  obtain ⟨S40, h40, hf⟩ := jm_wr_ok hf
  have e40 := jm_p_st _ _ h40
  rw [← e40] at hc1 hc2
  refine jw_pF (x := .inr q39) (ty := (.array .int)) (Cn := RX8) (T := TX8) (N := 29) C hJ hS h40 rfl inX8_init_X8 tyX8 tyX8_ok nmX8 (by decide) (jm_w C 25 rfl) (fun _ h => h) rfl hi rfl (by decide +kernel) (jm_nra _ q39).1 (jm_nra _ q39).2 dX8_init_157 (fun H locs hJ hS => ?_)
  refine jw_aload_n C dX8_init_160 rfl (hl.at 0 rfl) ?_
  refine lv_bipush (v := 10) C.1 C.2.1 dX8_init_161 (by decide) ?_
  obtain ⟨q41, S41, h41, hf⟩ := jm_bd_ok hf
  have e41 := jm_na_st h41
  have g41 := jm_mo hf (jm_Mo_wr jm_p_st (jm_Mo_bd jm_Mo_na (fun _ => jm_Mo_wr jm_p_st (jm_Mo_rd (fun _ => jm_Mo_bd (moX8_begins _ _) (fun _ => jm_Mo_ret _))))))
  refine jw_naI C hJ hS h41 (jm_w C 8 rfl) (by show cells + 1 ≤ mc; omega) (by show slots + _ ≤ ms; omega) dX8_init_163 (fun H hJ hS => ?_)
  replace hc1 : cells + 1 + n0 ≤ S41.2.1 := by omega
  replace hc2 : slots + (10 : Int32).toNatClampNeg + m0 ≤ S41.2.2.1 := by omega
  generalize cells + 1 = cells at hc1 ⊢
  generalize slots + (10 : Int32).toNatClampNeg = slots at hc2 ⊢
  obtain ⟨S42, h42, hf⟩ := jm_wr_ok hf
  have e42 := jm_p_st _ _ h42
  rw [← e42] at hc1 hc2
  refine jw_pF (x := .inr q41) (ty := (.array .int)) (Cn := RX8) (T := TX8) (N := 29) C hJ hS h42 rfl inX8_init_X8 tyX8 tyX8_ok nmX8 (by decide) (jm_w C 26 rfl) (fun _ h => h) rfl hi rfl (by decide +kernel) (jm_nra _ q41).1 (jm_nra _ q41).2 dX8_init_165 (fun H locs hJ hS => ?_)
  refine jw_aload_n C dX8_init_168 rfl (hl.at 0 rfl) ?_
  refine lv_bipush (v := 10) C.1 C.2.1 dX8_init_169 (by decide) ?_
  obtain ⟨q43, S43, h43, hf⟩ := jm_bd_ok hf
  have e43 := jm_na_st h43
  have g43 := jm_mo hf (jm_Mo_wr jm_p_st (jm_Mo_rd (fun _ => jm_Mo_bd (moX8_begins _ _) (fun _ => jm_Mo_ret _))))
  refine jw_naI C hJ hS h43 (jm_w C 8 rfl) (by show cells + 1 ≤ mc; omega) (by show slots + _ ≤ ms; omega) dX8_init_171 (fun H hJ hS => ?_)
  replace hc1 : cells + 1 + n0 ≤ S43.2.1 := by omega
  replace hc2 : slots + (10 : Int32).toNatClampNeg + m0 ≤ S43.2.2.1 := by omega
  generalize cells + 1 = cells at hc1 ⊢
  generalize slots + (10 : Int32).toNatClampNeg = slots at hc2 ⊢
  obtain ⟨S44, h44, hf⟩ := jm_wr_ok hf
  have e44 := jm_p_st _ _ h44
  rw [← e44] at hc1 hc2
  refine jw_pF (x := .inr q43) (ty := (.array .int)) (Cn := RX8) (T := TX8) (N := 29) C hJ hS h44 rfl inX8_init_X8 tyX8 tyX8_ok nmX8 (by decide) (jm_w C 27 rfl) (fun _ h => h) rfl hi rfl (by decide +kernel) (jm_nra _ q43).1 (jm_nra _ q43).2 dX8_init_173 (fun H locs hJ hS => ?_)
  refine jw_aload_n C dX8_init_176 rfl (hl.at 0 rfl) ?_
  refine lv_iconst (v := 3) C.1 C.2.1 dX8_init_177 (by decide) ?_
  obtain ⟨a45, o45, hf⟩ := jm_rd_ok hf
  obtain ⟨v45, S45, h45, hf⟩ := jm_bd_ok hf
  have e45 := moX8_begins a45 3 _ _ _ h45
  have g45 := jm_mo hf (jm_Mo_ret _)
  refine jw_cV (q := (RX8, TX8, 29)) C hJ hS o45 rfl (cX8_begins_C l G a45 3 h45) (cwV 1 C.2.2.2.2.1 gX8_init_X8_begins rfl rfl rfl (by decide +kernel) ⟨Nat.le_of_ble_eq_true rfl, Nat.le_of_ble_eq_true rfl⟩) rfl hl.1 rfl (Nat.le_of_ble_eq_true rfl) dX8_init_178 ⟨by show cells + 0 ≤ mc; omega, by show slots + 0 ≤ ms; omega⟩ (fun H locs hJ hS => ?_)
  replace hc1 : cells + 0 + n0 ≤ S45.2.1 := by omega
  replace hc2 : slots + 0 + m0 ≤ S45.2.2.1 := by omega
  generalize cells + 0 = cells at hc1 ⊢
  generalize slots + 0 = slots at hc2 ⊢
  obtain ⟨rfl, rfl⟩ := jm_ret_ok hf
  exact jw_rv C hJ hS (by omega) (by omega) dX8_init_181
set_option maxHeartbeats 4000000 in
set_option maxRecDepth 100000 in
theorem cX8_init_C (l : Launch) (G : jm_G) (h0 : Nat) {S Sf : jm_S} {rv : Unit} (hf : fX8_init h0 S = some (rv, Sf)) (mc ms : Nat) (hr1 : Sf.2.1 ≤ S.2.1 + mc) (hr2 : Sf.2.2.1 ≤ S.2.2.1 + ms) : Met l yX8_init wsX8_init ({ frames := 1, cells := mc, slots := ms, locals := 22 } : Room) (jm_Pc G S [.ref h0]) (jm_Q G (none) Sf) mc ms (jm_A G) := by
  refine Met.ofW (cc := cX8_init) (maxL := 1) (ret := none) (by decide) rfl ?_
  intro p e s m args below meth c s₁ B hml hv
  obtain ⟨rfl, hJ, hX⟩ := hv
  have C : jm_C G cX8_init 1 RX8 wsX8_init (none) p s m _ meth c := ⟨B.exec, B.bytes, hml, findClass_of_methodNamed B.named, atoms_spec (ws := wsX8_init) B.pre, B.returns, B.notSynchronized, hX⟩
  have hi : meth.name = "<init>" := (name_of_methodNamed B.named B.method).1
  obtain ⟨ls, he, hl⟩ := jm_entry m [.inr (some h0)] (n := 1) (Nat.le_of_ble_eq_true rfl)
  have he : entryFrame m ([.ref h0] : List Value).toArray 1 = F0 m 0 ls [] := he
  rw [he]
  exact kX8_init C hi (n0 := S.2.1) (m0 := S.2.2.1) hr1 hr2 h0 hf hJ va_S.rf (hl.sub [0] rfl) (by omega) (by omega)
/-! CoordinationServiceModel.in -/
def fX8_in (x0 : Int64) (x2 : Int64) (x4 : Int64) : jm_P Int32 := (if (lg_cmp x0 x2) < 0 then jm_rd (jm_z 0) fun _ => jm_ret 0 else (if 0 < (lg_cmp x0 x4) then jm_rd (jm_z 0) fun _ => jm_ret 0 else jm_rd (jm_z 1) fun _ => jm_ret 1))
theorem moX8_in (x0 : Int64) (x2 : Int64) (x4 : Int64) : jm_Mo (fX8_in x0 x2 x4) := by
  unfold fX8_in
  exact jm_Mo_if (jm_Mo_rd (fun _ => jm_Mo_ret _)) (jm_Mo_if (jm_Mo_rd (fun _ => jm_Mo_ret _)) (jm_Mo_rd (fun _ => jm_Mo_ret _)))
set_option maxHeartbeats 4000000 in
set_option maxRecDepth 100000 in
theorem kX8_in {rv : Int32} {Sf : jm_S} (C : jm_C G cX8_in 6 RX8 wsX8_in ((some .boolean)) p s m args meth c) : ∀ (x0 : Int64) (x2 : Int64) (x4 : Int64) {S : jm_S} {H : Heap} {locs : List Loc} {ls : Array Slot}, fX8_in x0 x2 x4 S = some (rv, Sf) → jm_J G S H → va_S (jm_A G) s.heap H locs → lv_has ls 6 [(0, .long x0), (2, .long x2), (4, .long x4)] → W p l e ({ frames := 0, cells := 0, slots := 0, locals := 0 } : Room) s m args below meth c H locs 0 0 (MQ below (jm_Q G (some (.int rv)) Sf) args s 0 0 (jm_A G)) (F0 m 0 ls []) := by
  intro x0 x2 x4 S H locs ls hf hJ hS hl
  unfold fX8_in at hf
  refine lv_lload_n C.1 C.2.1 dX8_in_0 rfl (lv_at hl 0 rfl) ?_
  refine lv_lload_n C.1 C.2.1 dX8_in_1 rfl (lv_at hl 1 rfl) ?_
  refine W.lcmp C.1 C.2.1 dX8_in_2 ?_
  refine lv_if_lt (tgt := 17) C.1 C.2.1 dX8_in_3 (by decide) (fun hq1 => ?_) (fun hq1 => ?_)
  · replace hf := jm_ift hf hq1
    refine lv_iconst (v := 0) C.1 C.2.1 dX8_in_17 (by decide) ?_
    obtain ⟨u2, z2, hf⟩ := jm_rd_ok hf
    obtain ⟨rfl, rfl⟩ := jm_ret_ok hf
    exact jw_rz C hJ hS z2 (Nat.le_refl _) (Nat.le_refl _) dX8_in_18
  · replace hf := jm_iff hf hq1
    refine lv_lload_n C.1 C.2.1 dX8_in_6 rfl (lv_at hl 0 rfl) ?_
    refine lv_lload C.1 C.2.1 dX8_in_7 (lv_at hl 2 rfl) ?_
    refine W.lcmp C.1 C.2.1 dX8_in_9 ?_
    refine lv_if_gt (tgt := 17) C.1 C.2.1 dX8_in_10 (by decide) (fun hq3 => ?_) (fun hq3 => ?_)
    · replace hf := jm_ift hf hq3
      refine lv_iconst (v := 0) C.1 C.2.1 dX8_in_17 (by decide) ?_
      obtain ⟨u4, z4, hf⟩ := jm_rd_ok hf
      obtain ⟨rfl, rfl⟩ := jm_ret_ok hf
      exact jw_rz C hJ hS z4 (Nat.le_refl _) (Nat.le_refl _) dX8_in_18
    · replace hf := jm_iff hf hq3
      refine lv_iconst (v := 1) C.1 C.2.1 dX8_in_13 (by decide) ?_
      refine lv_goto (tgt := 18) C.1 C.2.1 dX8_in_14 (by decide) ?_
      obtain ⟨u5, z5, hf⟩ := jm_rd_ok hf
      obtain ⟨rfl, rfl⟩ := jm_ret_ok hf
      exact jw_rz C hJ hS z5 (Nat.le_refl _) (Nat.le_refl _) dX8_in_18
set_option maxHeartbeats 4000000 in
set_option maxRecDepth 100000 in
theorem cX8_in_C (l : Launch) (G : jm_G) (x0 : Int64) (x2 : Int64) (x4 : Int64) {S Sf : jm_S} {rv : Int32} (hf : fX8_in x0 x2 x4 S = some (rv, Sf)) : Met l yX8_in wsX8_in ({ frames := 0, cells := 0, slots := 0, locals := 0 } : Room) (jm_Pc G S [.long x0, .long x2, .long x4]) (jm_Q G (some (.int rv)) Sf) 0 0 (jm_A G) := by
  refine Met.ofW (cc := cX8_in) (maxL := 6) (ret := (some .boolean)) (by decide) rfl ?_
  intro p e s m args below meth c s₁ B hml hv
  obtain ⟨rfl, hJ, hX⟩ := hv
  have C : jm_C G cX8_in 6 RX8 wsX8_in ((some .boolean)) p s m _ meth c := ⟨B.exec, B.bytes, hml, findClass_of_methodNamed B.named, atoms_spec (ws := wsX8_in) B.pre, B.returns, B.notSynchronized, hX⟩
  have hl := lv_entry ([.long x0, .long x2, .long x4]) (n := 6) (Nat.le_of_ble_eq_true rfl)
  rw [lg_entry_eq]
  generalize (lg_sl ([.long x0, .long x2, .long x4]) ++ List.replicate (6 - (lg_sl ([.long x0, .long x2, .long x4])).length) Slot.unset).toArray = ls at hl ⊢
  exact kX8_in C x0 x2 x4 hf hJ va_S.rf (hl)
/-! CoordinationServiceModel.isServer -/
def fX8_isServer (h0 : Nat) (x1 : Int32) : jm_P Int32 := jm_rd (jm_gI (some h0) 9 0) fun v1 => jm_bd (fX8_in x1.toInt64 0 ((v1 - 1).toInt64)) fun v2 => jm_rd (jm_z v2) fun _ => jm_ret v2
theorem inX8_isServer_X8 : ∀ w ∈ wsX80, w ∈ wsX8_isServer := fun _ h => List.mem_cons_of_mem _ (List.mem_append_right _ h)
theorem moX8_isServer (h0 : Nat) (x1 : Int32) : jm_Mo (fX8_isServer h0 x1) := by
  unfold fX8_isServer
  exact jm_Mo_rd (fun _ => jm_Mo_bd (moX8_in _ _ _) (fun _ => jm_Mo_rd (fun _ => jm_Mo_ret _)))
set_option maxHeartbeats 4000000 in
set_option maxRecDepth 100000 in
theorem kX8_isServer {rv : Int32} {Sf : jm_S} (C : jm_C G cX8_isServer 2 RX8 wsX8_isServer ((some .boolean)) p s m args meth c) : ∀ (h0 : Nat) (x1 : Int32) {S : jm_S} {H : Heap} {locs : List Loc} {ls : Array Slot}, fX8_isServer h0 x1 S = some (rv, Sf) → jm_J G S H → va_S (jm_A G) s.heap H locs → jm_L ls 2 [(0, .inr (some h0)), (1, .inl x1)] → W p l e ({ frames := 1, cells := 0, slots := 0, locals := 25 } : Room) s m args below meth c H locs 0 0 (MQ below (jm_Q G (some (.int rv)) Sf) args s 0 0 (jm_A G)) (F0 m 0 ls []) := by
  intro h0 x1 S H locs ls hf hJ hS hl
  unfold fX8_isServer at hf
  refine lv_iload_n C.1 C.2.1 dX8_isServer_0 rfl (hl.at 1 rfl) ?_
  refine lv_i2l C.1 C.2.1 dX8_isServer_1 rfl ?_
  refine lv_lconst (v := 0) C.1 C.2.1 dX8_isServer_2 (by decide) ?_
  refine jw_aload_n C dX8_isServer_3 rfl (hl.at 0 rfl) ?_
  obtain ⟨v1, h1, hf⟩ := jm_rd_ok hf
  refine jw_gI (Cn := RX8) (T := TX8) (N := 29) C hJ h1 rfl inX8_isServer_X8 (by decide) (jm_w C 1 rfl) (fun _ h => h) dX8_isServer_4 ?_
  refine lv_iconst (v := 1) C.1 C.2.1 dX8_isServer_7 (by decide) ?_
  refine lv_isub C.1 C.2.1 dX8_isServer_8 ?_
  refine lv_i2l C.1 C.2.1 dX8_isServer_9 rfl ?_
  obtain ⟨v2, S2, h2, hf⟩ := jm_bd_ok hf
  refine jw_cS C hJ hS (cX8_in_C l G x1.toInt64 0 ((v1 - 1).toInt64) h2) (va_cwS 3 C.2.2.2.2.1 gX8_isServer_X8_in rfl rfl rfl (by decide +kernel) ⟨Nat.le_of_ble_eq_true rfl, Nat.le_of_ble_eq_true rfl⟩) rfl hl.1 rfl (Nat.le_of_ble_eq_true rfl) dX8_isServer_10 ⟨Nat.le_refl _, Nat.le_refl _⟩ (fun H locs hJ hS => ?_)
  obtain ⟨u3, z3, hf⟩ := jm_rd_ok hf
  obtain ⟨rfl, rfl⟩ := jm_ret_ok hf
  exact jw_rz C hJ hS z3 (Nat.le_refl _) (Nat.le_refl _) dX8_isServer_13
set_option maxHeartbeats 4000000 in
set_option maxRecDepth 100000 in
theorem cX8_isServer_C (l : Launch) (G : jm_G) (h0 : Nat) (x1 : Int32) {S Sf : jm_S} {rv : Int32} (hf : fX8_isServer h0 x1 S = some (rv, Sf)) : Met l yX8_isServer wsX8_isServer ({ frames := 1, cells := 0, slots := 0, locals := 25 } : Room) (jm_Pc G S [.ref h0, .int x1]) (jm_Q G (some (.int rv)) Sf) 0 0 (jm_A G) := by
  refine Met.ofW (cc := cX8_isServer) (maxL := 2) (ret := (some .boolean)) (by decide) rfl ?_
  intro p e s m args below meth c s₁ B hml hv
  obtain ⟨rfl, hJ, hX⟩ := hv
  have C : jm_C G cX8_isServer 2 RX8 wsX8_isServer ((some .boolean)) p s m _ meth c := ⟨B.exec, B.bytes, hml, findClass_of_methodNamed B.named, atoms_spec (ws := wsX8_isServer) B.pre, B.returns, B.notSynchronized, hX⟩
  obtain ⟨ls, he, hl⟩ := jm_entry m [.inr (some h0), .inl x1] (n := 2) (Nat.le_of_ble_eq_true rfl)
  have he : entryFrame m ([.ref h0, .int x1] : List Value).toArray 2 = F0 m 0 ls [] := he
  rw [he]
  exact kX8_isServer C h0 x1 hf hJ va_S.rf (hl.sub [0, 1] rfl)
/-! CoordinationServiceModel.isSession -/
def fX8_isSession (h0 : Nat) (x1 : Int32) : jm_P Int32 := jm_rd (jm_gI (some h0) 9 22) fun v1 => jm_bd (fX8_in x1.toInt64 0 ((v1 - 1).toInt64)) fun v2 => jm_rd (jm_z v2) fun _ => jm_ret v2
theorem inX8_isSession_X8 : ∀ w ∈ wsX80, w ∈ wsX8_isSession := fun _ h => List.mem_cons_of_mem _ (List.mem_append_right _ h)
theorem moX8_isSession (h0 : Nat) (x1 : Int32) : jm_Mo (fX8_isSession h0 x1) := by
  unfold fX8_isSession
  exact jm_Mo_rd (fun _ => jm_Mo_bd (moX8_in _ _ _) (fun _ => jm_Mo_rd (fun _ => jm_Mo_ret _)))
set_option maxHeartbeats 4000000 in
set_option maxRecDepth 100000 in
theorem kX8_isSession {rv : Int32} {Sf : jm_S} (C : jm_C G cX8_isSession 2 RX8 wsX8_isSession ((some .boolean)) p s m args meth c) : ∀ (h0 : Nat) (x1 : Int32) {S : jm_S} {H : Heap} {locs : List Loc} {ls : Array Slot}, fX8_isSession h0 x1 S = some (rv, Sf) → jm_J G S H → va_S (jm_A G) s.heap H locs → jm_L ls 2 [(0, .inr (some h0)), (1, .inl x1)] → W p l e ({ frames := 1, cells := 0, slots := 0, locals := 25 } : Room) s m args below meth c H locs 0 0 (MQ below (jm_Q G (some (.int rv)) Sf) args s 0 0 (jm_A G)) (F0 m 0 ls []) := by
  intro h0 x1 S H locs ls hf hJ hS hl
  unfold fX8_isSession at hf
  refine lv_iload_n C.1 C.2.1 dX8_isSession_0 rfl (hl.at 1 rfl) ?_
  refine lv_i2l C.1 C.2.1 dX8_isSession_1 rfl ?_
  refine lv_lconst (v := 0) C.1 C.2.1 dX8_isSession_2 (by decide) ?_
  refine jw_aload_n C dX8_isSession_3 rfl (hl.at 0 rfl) ?_
  obtain ⟨v1, h1, hf⟩ := jm_rd_ok hf
  refine jw_gI (Cn := RX8) (T := TX8) (N := 29) C hJ h1 rfl inX8_isSession_X8 (by decide) (jm_w C 1 rfl) (fun _ h => h) dX8_isSession_4 ?_
  refine lv_iconst (v := 1) C.1 C.2.1 dX8_isSession_7 (by decide) ?_
  refine lv_isub C.1 C.2.1 dX8_isSession_8 ?_
  refine lv_i2l C.1 C.2.1 dX8_isSession_9 rfl ?_
  obtain ⟨v2, S2, h2, hf⟩ := jm_bd_ok hf
  refine jw_cS C hJ hS (cX8_in_C l G x1.toInt64 0 ((v1 - 1).toInt64) h2) (va_cwS 3 C.2.2.2.2.1 gX8_isSession_X8_in rfl rfl rfl (by decide +kernel) ⟨Nat.le_of_ble_eq_true rfl, Nat.le_of_ble_eq_true rfl⟩) rfl hl.1 rfl (Nat.le_of_ble_eq_true rfl) dX8_isSession_10 ⟨Nat.le_refl _, Nat.le_refl _⟩ (fun H locs hJ hS => ?_)
  obtain ⟨u3, z3, hf⟩ := jm_rd_ok hf
  obtain ⟨rfl, rfl⟩ := jm_ret_ok hf
  exact jw_rz C hJ hS z3 (Nat.le_refl _) (Nat.le_refl _) dX8_isSession_13
set_option maxHeartbeats 4000000 in
set_option maxRecDepth 100000 in
theorem cX8_isSession_C (l : Launch) (G : jm_G) (h0 : Nat) (x1 : Int32) {S Sf : jm_S} {rv : Int32} (hf : fX8_isSession h0 x1 S = some (rv, Sf)) : Met l yX8_isSession wsX8_isSession ({ frames := 1, cells := 0, slots := 0, locals := 25 } : Room) (jm_Pc G S [.ref h0, .int x1]) (jm_Q G (some (.int rv)) Sf) 0 0 (jm_A G) := by
  refine Met.ofW (cc := cX8_isSession) (maxL := 2) (ret := (some .boolean)) (by decide) rfl ?_
  intro p e s m args below meth c s₁ B hml hv
  obtain ⟨rfl, hJ, hX⟩ := hv
  have C : jm_C G cX8_isSession 2 RX8 wsX8_isSession ((some .boolean)) p s m _ meth c := ⟨B.exec, B.bytes, hml, findClass_of_methodNamed B.named, atoms_spec (ws := wsX8_isSession) B.pre, B.returns, B.notSynchronized, hX⟩
  obtain ⟨ls, he, hl⟩ := jm_entry m [.inr (some h0), .inl x1] (n := 2) (Nat.le_of_ble_eq_true rfl)
  have he : entryFrame m ([.ref h0, .int x1] : List Value).toArray 2 = F0 m 0 ls [] := he
  rw [he]
  exact kX8_isSession C h0 x1 hf hJ va_S.rf (hl.sub [0, 1] rfl)
/-! CoordinationServiceModel.quorum -/
def fX8_quorum (h0 : Nat) : jm_P Int32 := jm_rd (jm_gI (some h0) 9 0) fun v1 => jm_ret ((v1 / 2) + 1)
theorem inX8_quorum_X8 : ∀ w ∈ wsX80, w ∈ wsX8_quorum := fun _ h => List.mem_cons_of_mem _ (List.mem_append_right _ h)
theorem moX8_quorum (h0 : Nat) : jm_Mo (fX8_quorum h0) := by
  unfold fX8_quorum
  exact jm_Mo_rd (fun _ => jm_Mo_ret _)
set_option maxHeartbeats 4000000 in
set_option maxRecDepth 100000 in
theorem kX8_quorum {rv : Int32} {Sf : jm_S} (C : jm_C G cX8_quorum 1 RX8 wsX8_quorum ((some .int)) p s m args meth c) : ∀ (h0 : Nat) {S : jm_S} {H : Heap} {locs : List Loc} {ls : Array Slot}, fX8_quorum h0 S = some (rv, Sf) → jm_J G S H → va_S (jm_A G) s.heap H locs → jm_L ls 1 [(0, .inr (some h0))] → W p l e ({ frames := 0, cells := 0, slots := 0, locals := 0 } : Room) s m args below meth c H locs 0 0 (MQ below (jm_Q G (some (.int rv)) Sf) args s 0 0 (jm_A G)) (F0 m 0 ls []) := by
  intro h0 S H locs ls hf hJ hS hl
  unfold fX8_quorum at hf
  refine jw_aload_n C dX8_quorum_0 rfl (hl.at 0 rfl) ?_
  obtain ⟨v1, h1, hf⟩ := jm_rd_ok hf
  refine jw_gI (Cn := RX8) (T := TX8) (N := 29) C hJ h1 rfl inX8_quorum_X8 (by decide) (jm_w C 1 rfl) (fun _ h => h) dX8_quorum_1 ?_
  refine lv_iconst (v := 2) C.1 C.2.1 dX8_quorum_4 (by decide) ?_
  refine lv_idiv C.1 C.2.1 dX8_quorum_5 (by decide) ?_
  refine lv_iconst (v := 1) C.1 C.2.1 dX8_quorum_6 (by decide) ?_
  refine lv_iadd C.1 C.2.1 dX8_quorum_7 ?_
  obtain ⟨rfl, rfl⟩ := jm_ret_ok hf
  exact jw_ri C hJ hS (Nat.le_refl _) (Nat.le_refl _) dX8_quorum_8
set_option maxHeartbeats 4000000 in
set_option maxRecDepth 100000 in
theorem cX8_quorum_C (l : Launch) (G : jm_G) (h0 : Nat) {S Sf : jm_S} {rv : Int32} (hf : fX8_quorum h0 S = some (rv, Sf)) : Met l yX8_quorum wsX8_quorum ({ frames := 0, cells := 0, slots := 0, locals := 0 } : Room) (jm_Pc G S [.ref h0]) (jm_Q G (some (.int rv)) Sf) 0 0 (jm_A G) := by
  refine Met.ofW (cc := cX8_quorum) (maxL := 1) (ret := (some .int)) (by decide) rfl ?_
  intro p e s m args below meth c s₁ B hml hv
  obtain ⟨rfl, hJ, hX⟩ := hv
  have C : jm_C G cX8_quorum 1 RX8 wsX8_quorum ((some .int)) p s m _ meth c := ⟨B.exec, B.bytes, hml, findClass_of_methodNamed B.named, atoms_spec (ws := wsX8_quorum) B.pre, B.returns, B.notSynchronized, hX⟩
  obtain ⟨ls, he, hl⟩ := jm_entry m [.inr (some h0)] (n := 1) (Nat.le_of_ble_eq_true rfl)
  have he : entryFrame m ([.ref h0] : List Value).toArray 1 = F0 m 0 ls [] := he
  rw [he]
  exact kX8_quorum C h0 hf hJ va_S.rf (hl.sub [0] rfl)
/-! CoordinationServiceModel.reset -/
def fX8_reset (h0 : Nat) (x1 : Int32) : jm_P Int32 := jm_bd (fX8_in x1.toInt64 3 5) fun v1 => (if v1 = 0 then jm_ret (-1) else jm_rd (jm_gI (some h0) 9 0) fun v3 => jm_rd (jm_o (some h0) 9) fun a4 => jm_bd (fX8_begins a4 x1) fun _ => jm_ret v3)
theorem inX8_reset_X8 : ∀ w ∈ wsX80, w ∈ wsX8_reset := fun _ h => List.mem_cons_of_mem _ (List.mem_append_right _ h)
theorem moX8_reset (h0 : Nat) (x1 : Int32) : jm_Mo (fX8_reset h0 x1) := by
  unfold fX8_reset
  exact jm_Mo_bd (moX8_in _ _ _) (fun _ => jm_Mo_if (jm_Mo_ret _) (jm_Mo_rd (fun _ => jm_Mo_rd (fun _ => jm_Mo_bd (moX8_begins _ _) (fun _ => jm_Mo_ret _)))))
set_option maxHeartbeats 4000000 in
set_option maxRecDepth 100000 in
theorem kX8_reset {rv : Int32} {Sf : jm_S} (C : jm_C G cX8_reset 3 RX8 wsX8_reset ((some .int)) p s m args meth c) : ∀ (h0 : Nat) (x1 : Int32) {S : jm_S} {H : Heap} {locs : List Loc} {ls : Array Slot}, fX8_reset h0 x1 S = some (rv, Sf) → jm_J G S H → va_S (jm_A G) s.heap H locs → jm_L ls 3 [(0, .inr (some h0)), (1, .inl x1)] → W p l e ({ frames := 1, cells := 0, slots := 0, locals := 25 } : Room) s m args below meth c H locs 0 0 (MQ below (jm_Q G (some (.int rv)) Sf) args s 0 0 (jm_A G)) (F0 m 0 ls []) := by
  intro h0 x1 S H locs ls hf hJ hS hl
  unfold fX8_reset at hf
  refine lv_iload_n C.1 C.2.1 dX8_reset_0 rfl (hl.at 1 rfl) ?_
  refine lv_i2l C.1 C.2.1 dX8_reset_1 rfl ?_
  refine lv_ldc2 (v := 3) C.1 C.2.1 C.2.2.2.1 (jm_w C 1 rfl) dX8_reset_2 ?_
  refine lv_ldc2 (v := 5) C.1 C.2.1 C.2.2.2.1 (jm_w C 2 rfl) dX8_reset_5 ?_
  obtain ⟨v1, S1, h1, hf⟩ := jm_bd_ok hf
  refine jw_cS C hJ hS (cX8_in_C l G x1.toInt64 3 5 h1) (va_cwS 3 C.2.2.2.2.1 gX8_reset_X8_in rfl rfl rfl (by decide +kernel) ⟨Nat.le_of_ble_eq_true rfl, Nat.le_of_ble_eq_true rfl⟩) rfl hl.1 rfl (Nat.le_of_ble_eq_true rfl) dX8_reset_8 ⟨Nat.le_refl _, Nat.le_refl _⟩ (fun H locs hJ hS => ?_)
  refine lv_if_ne (tgt := 16) C.1 C.2.1 dX8_reset_11 (by decide) (fun hq2 => ?_) (fun hq2 => ?_)
  · replace hf := jm_iff hf hq2
    refine jw_aload_n C dX8_reset_16 rfl (hl.at 0 rfl) ?_
    obtain ⟨v3, h3, hf⟩ := jm_rd_ok hf
    refine jw_gI (Cn := RX8) (T := TX8) (N := 29) C hJ h3 rfl inX8_reset_X8 (by decide) (jm_w C 3 rfl) (fun _ h => h) dX8_reset_17 ?_
    refine jw_istore_n C dX8_reset_20 rfl hl (by decide) rfl (fun ls hl => ?_)
    refine jw_aload_n C dX8_reset_21 rfl (hl.at 1 rfl) ?_
    refine lv_iload_n C.1 C.2.1 dX8_reset_22 rfl (hl.at 2 rfl) ?_
    obtain ⟨a4, o4, hf⟩ := jm_rd_ok hf
    obtain ⟨v4, S4, h4, hf⟩ := jm_bd_ok hf
    refine jw_cV (q := (RX8, TX8, 29)) C hJ hS o4 rfl (cX8_begins_C l G a4 x1 h4) (cwV 1 C.2.2.2.2.1 gX8_reset_X8_begins rfl rfl rfl (by decide +kernel) ⟨Nat.le_of_ble_eq_true rfl, Nat.le_of_ble_eq_true rfl⟩) rfl hl.1 rfl (Nat.le_of_ble_eq_true rfl) dX8_reset_23 ⟨Nat.le_refl _, Nat.le_refl _⟩ (fun H locs hJ hS => ?_)
    refine lv_iload_n C.1 C.2.1 dX8_reset_26 rfl (hl.at 0 rfl) ?_
    obtain ⟨rfl, rfl⟩ := jm_ret_ok hf
    exact jw_ri C hJ hS (Nat.le_refl _) (Nat.le_refl _) dX8_reset_27
  · replace hf := jm_ift hf hq2
    refine lv_iconst (v := (-1)) C.1 C.2.1 dX8_reset_14 (by decide) ?_
    obtain ⟨rfl, rfl⟩ := jm_ret_ok hf
    exact jw_ri C hJ hS (Nat.le_refl _) (Nat.le_refl _) dX8_reset_15
set_option maxHeartbeats 4000000 in
set_option maxRecDepth 100000 in
theorem cX8_reset_C (l : Launch) (G : jm_G) (h0 : Nat) (x1 : Int32) {S Sf : jm_S} {rv : Int32} (hf : fX8_reset h0 x1 S = some (rv, Sf)) : Met l yX8_reset wsX8_reset ({ frames := 1, cells := 0, slots := 0, locals := 25 } : Room) (jm_Pc G S [.ref h0, .int x1]) (jm_Q G (some (.int rv)) Sf) 0 0 (jm_A G) := by
  refine Met.ofW (cc := cX8_reset) (maxL := 3) (ret := (some .int)) (by decide) rfl ?_
  intro p e s m args below meth c s₁ B hml hv
  obtain ⟨rfl, hJ, hX⟩ := hv
  have C : jm_C G cX8_reset 3 RX8 wsX8_reset ((some .int)) p s m _ meth c := ⟨B.exec, B.bytes, hml, findClass_of_methodNamed B.named, atoms_spec (ws := wsX8_reset) B.pre, B.returns, B.notSynchronized, hX⟩
  obtain ⟨ls, he, hl⟩ := jm_entry m [.inr (some h0), .inl x1] (n := 3) (Nat.le_of_ble_eq_true rfl)
  have he : entryFrame m ([.ref h0, .int x1] : List Value).toArray 3 = F0 m 0 ls [] := he
  rw [he]
  exact kX8_reset C h0 x1 hf hJ va_S.rf (hl.sub [0, 1] rfl)
/-! CoordinationServiceModel.path -/
def fX8_path_4 : Nat → Nat → Int32 → Int32 → jm_P Int32
  | 0, _, _, _ => jm_no
  | n + 1, h0, x1, x2 => (if 4 ≤ x2 then jm_ret x1 else jm_rd (jm_gI (some h0) 9 20) fun v2 => (if v2 ≤ x2 then fX8_path_4 n h0 ((7 * x1) + 0) (x2 + 1) else jm_rd (jm_gR (some h0) 9 21) fun v4 => jm_rd (jm_gi v4 0 x2) fun v5 => fX8_path_4 n h0 ((7 * x1) + (v5 + 1)) (x2 + 1)))
def fX8_path (h0 : Nat) : jm_P Int32 := fX8_path_4 4096 h0 0 0
theorem inX8_path_X8 : ∀ w ∈ wsX80, w ∈ wsX8_path := fun _ h => List.mem_cons_of_mem _ (List.mem_append_right _ h)
theorem moX8_path_4 : ∀ (n : Nat) (h0 : Nat) (x1 : Int32) (x2 : Int32), jm_Mo (fX8_path_4 n h0 x1 x2) := by
  intro n
  induction n with
  | zero =>
    intro h0 x1 x2
    rw [fX8_path_4]
    exact jm_Mo_no
  | succ n ih =>
    intro h0 x1 x2
    rw [fX8_path_4]
    exact jm_Mo_if (jm_Mo_ret _) (jm_Mo_rd (fun _ => jm_Mo_if (ih _ _ _) (jm_Mo_rd (fun _ => jm_Mo_rd (fun _ => ih _ _ _)))))
set_option maxHeartbeats 4000000 in
set_option maxRecDepth 100000 in
theorem kX8_path_4 {rv : Int32} {Sf : jm_S} (C : jm_C G cX8_path 3 RX8 wsX8_path ((some .int)) p s m args meth c) : ∀ (n : Nat) (h0 : Nat) (x1 : Int32) (x2 : Int32) {S : jm_S} {H : Heap} {locs : List Loc} {ls : Array Slot}, fX8_path_4 n h0 x1 x2 S = some (rv, Sf) → jm_J G S H → va_S (jm_A G) s.heap H locs → jm_L ls 3 [(0, .inr (some h0)), (1, .inl x1), (2, .inl x2)] → W p l e ({ frames := 0, cells := 0, slots := 0, locals := 0 } : Room) s m args below meth c H locs 0 0 (MQ below (jm_Q G (some (.int rv)) Sf) args s 0 0 (jm_A G)) (F0 m 4 ls []) := by
  intro n
  induction n with
  | zero =>
    intro h0 x1 x2 S H locs ls hf
    rw [fX8_path_4] at hf
    exact absurd hf (fun h => jm_no_ok h)
  | succ n ih =>
    intro h0 x1 x2 S H locs ls hf hJ hS hl
    rw [fX8_path_4] at hf
    refine lv_iload_n C.1 C.2.1 dX8_path_4 rfl (hl.at 2 rfl) ?_
    refine lv_iconst (v := 4) C.1 C.2.1 dX8_path_5 (by decide) ?_
    refine lv_icmp_ge (tgt := 41) C.1 C.2.1 dX8_path_6 (by decide) (fun hq1 => ?_) (fun hq1 => ?_)
    · replace hf := jm_ift hf hq1
      refine lv_iload_n C.1 C.2.1 dX8_path_41 rfl (hl.at 1 rfl) ?_
      obtain ⟨rfl, rfl⟩ := jm_ret_ok hf
      exact jw_ri C hJ hS (Nat.le_refl _) (Nat.le_refl _) dX8_path_42
    · replace hf := jm_iff hf hq1
      refine lv_bipush (v := 7) C.1 C.2.1 dX8_path_9 (by decide) ?_
      refine lv_iload_n C.1 C.2.1 dX8_path_11 rfl (hl.at 1 rfl) ?_
      refine lv_imul C.1 C.2.1 dX8_path_12 ?_
      refine lv_iload_n C.1 C.2.1 dX8_path_13 rfl (hl.at 2 rfl) ?_
      refine jw_aload_n C dX8_path_14 rfl (hl.at 0 rfl) ?_
      obtain ⟨v2, h2, hf⟩ := jm_rd_ok hf
      refine jw_gI (Cn := RX8) (T := TX8) (N := 29) C hJ h2 rfl inX8_path_X8 (by decide) (jm_w C 1 rfl) (fun _ h => h) dX8_path_15 ?_
      refine lv_icmp_ge (tgt := 32) C.1 C.2.1 dX8_path_18 (by decide) (fun hq3 => ?_) (fun hq3 => ?_)
      · replace hf := jm_ift hf hq3
        refine lv_iconst (v := 0) C.1 C.2.1 dX8_path_32 (by decide) ?_
        refine lv_iadd C.1 C.2.1 dX8_path_33 ?_
        refine jw_istore_n C dX8_path_34 rfl hl (by decide) rfl (fun ls hl => ?_)
        refine jw_iinc (v := x2 + 1) C 2 dX8_path_35 hl rfl (by rfl) (by decide) rfl (fun ls hl => ?_)
        refine lv_goto (tgt := 4) C.1 C.2.1 dX8_path_38 (by decide) ?_
        exact ih h0 ((7 * x1) + 0) (x2 + 1) hf hJ hS (hl.sub [2, 1, 0] rfl)
      · replace hf := jm_iff hf hq3
        refine jw_aload_n C dX8_path_21 rfl (hl.at 0 rfl) ?_
        obtain ⟨v4, h4, hf⟩ := jm_rd_ok hf
        refine jw_gR (Cn := RX8) (T := TX8) (N := 29) C hJ h4 rfl inX8_path_X8 (by decide) (jm_w C 2 rfl) (fun _ h => h) dX8_path_22 ?_
        refine lv_iload_n C.1 C.2.1 dX8_path_25 rfl (hl.at 2 rfl) ?_
        obtain ⟨v5, h5, hf⟩ := jm_rd_ok hf
        refine jw_iaload C hJ h5 dX8_path_26 ?_
        refine lv_iconst (v := 1) C.1 C.2.1 dX8_path_27 (by decide) ?_
        refine lv_iadd C.1 C.2.1 dX8_path_28 ?_
        refine lv_goto (tgt := 33) C.1 C.2.1 dX8_path_29 (by decide) ?_
        refine lv_iadd C.1 C.2.1 dX8_path_33 ?_
        refine jw_istore_n C dX8_path_34 rfl hl (by decide) rfl (fun ls hl => ?_)
        refine jw_iinc (v := x2 + 1) C 2 dX8_path_35 hl rfl (by rfl) (by decide) rfl (fun ls hl => ?_)
        refine lv_goto (tgt := 4) C.1 C.2.1 dX8_path_38 (by decide) ?_
        exact ih h0 ((7 * x1) + (v5 + 1)) (x2 + 1) hf hJ hS (hl.sub [2, 1, 0] rfl)
theorem moX8_path (h0 : Nat) : jm_Mo (fX8_path h0) := by
  unfold fX8_path
  exact moX8_path_4 _ _ _ _
set_option maxHeartbeats 4000000 in
set_option maxRecDepth 100000 in
theorem kX8_path {rv : Int32} {Sf : jm_S} (C : jm_C G cX8_path 3 RX8 wsX8_path ((some .int)) p s m args meth c) : ∀ (h0 : Nat) {S : jm_S} {H : Heap} {locs : List Loc} {ls : Array Slot}, fX8_path h0 S = some (rv, Sf) → jm_J G S H → va_S (jm_A G) s.heap H locs → jm_L ls 3 [(0, .inr (some h0))] → W p l e ({ frames := 0, cells := 0, slots := 0, locals := 0 } : Room) s m args below meth c H locs 0 0 (MQ below (jm_Q G (some (.int rv)) Sf) args s 0 0 (jm_A G)) (F0 m 0 ls []) := by
  intro h0 S H locs ls hf hJ hS hl
  unfold fX8_path at hf
  refine lv_iconst (v := 0) C.1 C.2.1 dX8_path_0 (by decide) ?_
  refine jw_istore_n C dX8_path_1 rfl hl (by decide) rfl (fun ls hl => ?_)
  refine lv_iconst (v := 0) C.1 C.2.1 dX8_path_2 (by decide) ?_
  refine jw_istore_n C dX8_path_3 rfl hl (by decide) rfl (fun ls hl => ?_)
  exact kX8_path_4 C 4096 h0 0 0 hf hJ hS (hl.sub [2, 1, 0] rfl)
set_option maxHeartbeats 4000000 in
set_option maxRecDepth 100000 in
theorem cX8_path_C (l : Launch) (G : jm_G) (h0 : Nat) {S Sf : jm_S} {rv : Int32} (hf : fX8_path h0 S = some (rv, Sf)) : Met l yX8_path wsX8_path ({ frames := 0, cells := 0, slots := 0, locals := 0 } : Room) (jm_Pc G S [.ref h0]) (jm_Q G (some (.int rv)) Sf) 0 0 (jm_A G) := by
  refine Met.ofW (cc := cX8_path) (maxL := 3) (ret := (some .int)) (by decide) rfl ?_
  intro p e s m args below meth c s₁ B hml hv
  obtain ⟨rfl, hJ, hX⟩ := hv
  have C : jm_C G cX8_path 3 RX8 wsX8_path ((some .int)) p s m _ meth c := ⟨B.exec, B.bytes, hml, findClass_of_methodNamed B.named, atoms_spec (ws := wsX8_path) B.pre, B.returns, B.notSynchronized, hX⟩
  obtain ⟨ls, he, hl⟩ := jm_entry m [.inr (some h0)] (n := 3) (Nat.le_of_ble_eq_true rfl)
  have he : entryFrame m ([.ref h0] : List Value).toArray 3 = F0 m 0 ls [] := he
  rw [he]
  exact kX8_path C h0 hf hJ va_S.rf (hl.sub [0] rfl)
/-! CoordinationServiceModel.lastOf -/
def fX8_lastOf_2 : Nat → Int32 → Int32 → jm_P Int32
  | 0, _, _ => jm_no
  | n + 1, x0, x1 => (if 2401 ≤ x1 then (if x0 = 0 then jm_ret 0 else jm_ret x1) else (if x1 = 0 then jm_no else (if ((x0 / x1) - (x0 / x1) / 7 * 7) = 0 then fX8_lastOf_2 n x0 (x1 * 7) else (if x0 = 0 then jm_ret 0 else jm_ret x1))))
def fX8_lastOf (x0 : Int32) : jm_P Int32 := fX8_lastOf_2 4096 x0 1
theorem moX8_lastOf_2 : ∀ (n : Nat) (x0 : Int32) (x1 : Int32), jm_Mo (fX8_lastOf_2 n x0 x1) := by
  intro n
  induction n with
  | zero =>
    intro x0 x1
    rw [fX8_lastOf_2]
    exact jm_Mo_no
  | succ n ih =>
    intro x0 x1
    rw [fX8_lastOf_2]
    exact jm_Mo_if (jm_Mo_if (jm_Mo_ret _) (jm_Mo_ret _)) (jm_Mo_if jm_Mo_no (jm_Mo_if (ih _ _) (jm_Mo_if (jm_Mo_ret _) (jm_Mo_ret _))))
set_option maxHeartbeats 4000000 in
set_option maxRecDepth 100000 in
theorem kX8_lastOf_2 {rv : Int32} {Sf : jm_S} (C : jm_C G cX8_lastOf 2 RX8 wsX8_lastOf ((some .int)) p s m args meth c) : ∀ (n : Nat) (x0 : Int32) (x1 : Int32) {S : jm_S} {H : Heap} {locs : List Loc} {ls : Array Slot}, fX8_lastOf_2 n x0 x1 S = some (rv, Sf) → jm_J G S H → va_S (jm_A G) s.heap H locs → jm_L ls 2 [(0, .inl x0), (1, .inl x1)] → W p l e ({ frames := 0, cells := 0, slots := 0, locals := 0 } : Room) s m args below meth c H locs 0 0 (MQ below (jm_Q G (some (.int rv)) Sf) args s 0 0 (jm_A G)) (F0 m 2 ls []) := by
  intro n
  induction n with
  | zero =>
    intro x0 x1 S H locs ls hf
    rw [fX8_lastOf_2] at hf
    exact absurd hf (fun h => jm_no_ok h)
  | succ n ih =>
    intro x0 x1 S H locs ls hf hJ hS hl
    rw [fX8_lastOf_2] at hf
    refine lv_iload_n C.1 C.2.1 dX8_lastOf_2 rfl (hl.at 1 rfl) ?_
    refine lv_sipush (v := 2401) C.1 C.2.1 dX8_lastOf_3 (by decide) ?_
    refine lv_icmp_ge (tgt := 26) C.1 C.2.1 dX8_lastOf_6 (by decide) (fun hq1 => ?_) (fun hq1 => ?_)
    · replace hf := jm_ift hf hq1
      refine lv_iload_n C.1 C.2.1 dX8_lastOf_26 rfl (hl.at 0 rfl) ?_
      refine lv_if_ne (tgt := 34) C.1 C.2.1 dX8_lastOf_27 (by decide) (fun hq2 => ?_) (fun hq2 => ?_)
      · replace hf := jm_iff hf hq2
        refine lv_iload_n C.1 C.2.1 dX8_lastOf_34 rfl (hl.at 1 rfl) ?_
        obtain ⟨rfl, rfl⟩ := jm_ret_ok hf
        exact jw_ri C hJ hS (Nat.le_refl _) (Nat.le_refl _) dX8_lastOf_35
      · replace hf := jm_ift hf hq2
        refine lv_iconst (v := 0) C.1 C.2.1 dX8_lastOf_30 (by decide) ?_
        refine lv_goto (tgt := 35) C.1 C.2.1 dX8_lastOf_31 (by decide) ?_
        obtain ⟨rfl, rfl⟩ := jm_ret_ok hf
        exact jw_ri C hJ hS (Nat.le_refl _) (Nat.le_refl _) dX8_lastOf_35
    · replace hf := jm_iff hf hq1
      refine lv_iload_n C.1 C.2.1 dX8_lastOf_9 rfl (hl.at 0 rfl) ?_
      refine lv_iload_n C.1 C.2.1 dX8_lastOf_10 rfl (hl.at 1 rfl) ?_
      by_cases hd3 : x1 = 0
      · exact absurd (jm_ift hf hd3) (fun h => jm_no_ok h)
      replace hf := jm_iff hf hd3
      refine lv_idiv C.1 C.2.1 dX8_lastOf_11 hd3 ?_
      refine lv_bipush (v := 7) C.1 C.2.1 dX8_lastOf_12 (by decide) ?_
      refine lv_irem C.1 C.2.1 dX8_lastOf_14 (by decide) ?_
      refine lv_if_ne (tgt := 26) C.1 C.2.1 dX8_lastOf_15 (by decide) (fun hq4 => ?_) (fun hq4 => ?_)
      · replace hf := jm_iff hf hq4
        refine lv_iload_n C.1 C.2.1 dX8_lastOf_26 rfl (hl.at 0 rfl) ?_
        refine lv_if_ne (tgt := 34) C.1 C.2.1 dX8_lastOf_27 (by decide) (fun hq5 => ?_) (fun hq5 => ?_)
        · replace hf := jm_iff hf hq5
          refine lv_iload_n C.1 C.2.1 dX8_lastOf_34 rfl (hl.at 1 rfl) ?_
          obtain ⟨rfl, rfl⟩ := jm_ret_ok hf
          exact jw_ri C hJ hS (Nat.le_refl _) (Nat.le_refl _) dX8_lastOf_35
        · replace hf := jm_ift hf hq5
          refine lv_iconst (v := 0) C.1 C.2.1 dX8_lastOf_30 (by decide) ?_
          refine lv_goto (tgt := 35) C.1 C.2.1 dX8_lastOf_31 (by decide) ?_
          obtain ⟨rfl, rfl⟩ := jm_ret_ok hf
          exact jw_ri C hJ hS (Nat.le_refl _) (Nat.le_refl _) dX8_lastOf_35
      · replace hf := jm_ift hf hq4
        refine lv_iload_n C.1 C.2.1 dX8_lastOf_18 rfl (hl.at 1 rfl) ?_
        refine lv_bipush (v := 7) C.1 C.2.1 dX8_lastOf_19 (by decide) ?_
        refine lv_imul C.1 C.2.1 dX8_lastOf_21 ?_
        refine jw_istore_n C dX8_lastOf_22 rfl hl (by decide) rfl (fun ls hl => ?_)
        refine lv_goto (tgt := 2) C.1 C.2.1 dX8_lastOf_23 (by decide) ?_
        exact ih x0 (x1 * 7) hf hJ hS (hl.sub [1, 0] rfl)
theorem moX8_lastOf (x0 : Int32) : jm_Mo (fX8_lastOf x0) := by
  unfold fX8_lastOf
  exact moX8_lastOf_2 _ _ _
set_option maxHeartbeats 4000000 in
set_option maxRecDepth 100000 in
theorem kX8_lastOf {rv : Int32} {Sf : jm_S} (C : jm_C G cX8_lastOf 2 RX8 wsX8_lastOf ((some .int)) p s m args meth c) : ∀ (x0 : Int32) {S : jm_S} {H : Heap} {locs : List Loc} {ls : Array Slot}, fX8_lastOf x0 S = some (rv, Sf) → jm_J G S H → va_S (jm_A G) s.heap H locs → jm_L ls 2 [(0, .inl x0)] → W p l e ({ frames := 0, cells := 0, slots := 0, locals := 0 } : Room) s m args below meth c H locs 0 0 (MQ below (jm_Q G (some (.int rv)) Sf) args s 0 0 (jm_A G)) (F0 m 0 ls []) := by
  intro x0 S H locs ls hf hJ hS hl
  unfold fX8_lastOf at hf
  refine lv_iconst (v := 1) C.1 C.2.1 dX8_lastOf_0 (by decide) ?_
  refine jw_istore_n C dX8_lastOf_1 rfl hl (by decide) rfl (fun ls hl => ?_)
  exact kX8_lastOf_2 C 4096 x0 1 hf hJ hS (hl.sub [1, 0] rfl)
set_option maxHeartbeats 4000000 in
set_option maxRecDepth 100000 in
theorem cX8_lastOf_C (l : Launch) (G : jm_G) (x0 : Int32) {S Sf : jm_S} {rv : Int32} (hf : fX8_lastOf x0 S = some (rv, Sf)) : Met l yX8_lastOf wsX8_lastOf ({ frames := 0, cells := 0, slots := 0, locals := 0 } : Room) (jm_Pc G S [.int x0]) (jm_Q G (some (.int rv)) Sf) 0 0 (jm_A G) := by
  refine Met.ofW (cc := cX8_lastOf) (maxL := 2) (ret := (some .int)) (by decide) rfl ?_
  intro p e s m args below meth c s₁ B hml hv
  obtain ⟨rfl, hJ, hX⟩ := hv
  have C : jm_C G cX8_lastOf 2 RX8 wsX8_lastOf ((some .int)) p s m _ meth c := ⟨B.exec, B.bytes, hml, findClass_of_methodNamed B.named, atoms_spec (ws := wsX8_lastOf) B.pre, B.returns, B.notSynchronized, hX⟩
  obtain ⟨ls, he, hl⟩ := jm_entry m [.inl x0] (n := 2) (Nat.le_of_ble_eq_true rfl)
  have he : entryFrame m ([.int x0] : List Value).toArray 2 = F0 m 0 ls [] := he
  rw [he]
  exact kX8_lastOf C x0 hf hJ va_S.rf (hl.sub [0] rfl)
/-! CoordinationServiceModel.parentOf -/
def fX8_parentOf (x0 : Int32) : jm_P Int32 := jm_bd (fX8_lastOf x0) fun v1 => (if v1 = 0 then jm_ret 0 else (if v1 = 0 then jm_no else jm_ret (x0 - (((x0 / v1) - (x0 / v1) / 7 * 7) * v1))))
theorem moX8_parentOf (x0 : Int32) : jm_Mo (fX8_parentOf x0) := by
  unfold fX8_parentOf
  exact jm_Mo_bd (moX8_lastOf _) (fun _ => jm_Mo_if (jm_Mo_ret _) (jm_Mo_if jm_Mo_no (jm_Mo_ret _)))
set_option maxHeartbeats 4000000 in
set_option maxRecDepth 100000 in
theorem kX8_parentOf {rv : Int32} {Sf : jm_S} (C : jm_C G cX8_parentOf 2 RX8 wsX8_parentOf ((some .int)) p s m args meth c) : ∀ (x0 : Int32) {S : jm_S} {H : Heap} {locs : List Loc} {ls : Array Slot}, fX8_parentOf x0 S = some (rv, Sf) → jm_J G S H → va_S (jm_A G) s.heap H locs → jm_L ls 2 [(0, .inl x0)] → W p l e ({ frames := 1, cells := 0, slots := 0, locals := 21 } : Room) s m args below meth c H locs 0 0 (MQ below (jm_Q G (some (.int rv)) Sf) args s 0 0 (jm_A G)) (F0 m 0 ls []) := by
  intro x0 S H locs ls hf hJ hS hl
  unfold fX8_parentOf at hf
  refine lv_iload_n C.1 C.2.1 dX8_parentOf_0 rfl (hl.at 0 rfl) ?_
  obtain ⟨v1, S1, h1, hf⟩ := jm_bd_ok hf
  refine jw_cS C hJ hS (cX8_lastOf_C l G x0 h1) (va_cwS 1 C.2.2.2.2.1 gX8_parentOf_X8_lastOf rfl rfl rfl (by decide +kernel) ⟨Nat.le_of_ble_eq_true rfl, Nat.le_of_ble_eq_true rfl⟩) rfl hl.1 rfl (Nat.le_of_ble_eq_true rfl) dX8_parentOf_1 ⟨Nat.le_refl _, Nat.le_refl _⟩ (fun H locs hJ hS => ?_)
  refine jw_istore_n C dX8_parentOf_4 rfl hl (by decide) rfl (fun ls hl => ?_)
  refine lv_iload_n C.1 C.2.1 dX8_parentOf_5 rfl (hl.at 0 rfl) ?_
  refine lv_if_ne (tgt := 13) C.1 C.2.1 dX8_parentOf_6 (by decide) (fun hq2 => ?_) (fun hq2 => ?_)
  · replace hf := jm_iff hf hq2
    refine lv_iload_n C.1 C.2.1 dX8_parentOf_13 rfl (hl.at 1 rfl) ?_
    refine lv_iload_n C.1 C.2.1 dX8_parentOf_14 rfl (hl.at 1 rfl) ?_
    refine lv_iload_n C.1 C.2.1 dX8_parentOf_15 rfl (hl.at 0 rfl) ?_
    by_cases hd3 : v1 = 0
    · exact absurd (jm_ift hf hd3) (fun h => jm_no_ok h)
    replace hf := jm_iff hf hd3
    refine lv_idiv C.1 C.2.1 dX8_parentOf_16 hd3 ?_
    refine lv_bipush (v := 7) C.1 C.2.1 dX8_parentOf_17 (by decide) ?_
    refine lv_irem C.1 C.2.1 dX8_parentOf_19 (by decide) ?_
    refine lv_iload_n C.1 C.2.1 dX8_parentOf_20 rfl (hl.at 0 rfl) ?_
    refine lv_imul C.1 C.2.1 dX8_parentOf_21 ?_
    refine lv_isub C.1 C.2.1 dX8_parentOf_22 ?_
    obtain ⟨rfl, rfl⟩ := jm_ret_ok hf
    exact jw_ri C hJ hS (Nat.le_refl _) (Nat.le_refl _) dX8_parentOf_23
  · replace hf := jm_ift hf hq2
    refine lv_iconst (v := 0) C.1 C.2.1 dX8_parentOf_9 (by decide) ?_
    refine lv_goto (tgt := 23) C.1 C.2.1 dX8_parentOf_10 (by decide) ?_
    obtain ⟨rfl, rfl⟩ := jm_ret_ok hf
    exact jw_ri C hJ hS (Nat.le_refl _) (Nat.le_refl _) dX8_parentOf_23
set_option maxHeartbeats 4000000 in
set_option maxRecDepth 100000 in
theorem cX8_parentOf_C (l : Launch) (G : jm_G) (x0 : Int32) {S Sf : jm_S} {rv : Int32} (hf : fX8_parentOf x0 S = some (rv, Sf)) : Met l yX8_parentOf wsX8_parentOf ({ frames := 1, cells := 0, slots := 0, locals := 21 } : Room) (jm_Pc G S [.int x0]) (jm_Q G (some (.int rv)) Sf) 0 0 (jm_A G) := by
  refine Met.ofW (cc := cX8_parentOf) (maxL := 2) (ret := (some .int)) (by decide) rfl ?_
  intro p e s m args below meth c s₁ B hml hv
  obtain ⟨rfl, hJ, hX⟩ := hv
  have C : jm_C G cX8_parentOf 2 RX8 wsX8_parentOf ((some .int)) p s m _ meth c := ⟨B.exec, B.bytes, hml, findClass_of_methodNamed B.named, atoms_spec (ws := wsX8_parentOf) B.pre, B.returns, B.notSynchronized, hX⟩
  obtain ⟨ls, he, hl⟩ := jm_entry m [.inl x0] (n := 2) (Nat.le_of_ble_eq_true rfl)
  have he : entryFrame m ([.int x0] : List Value).toArray 2 = F0 m 0 ls [] := he
  rw [he]
  exact kX8_parentOf C x0 hf hJ va_S.rf (hl.sub [0] rfl)
/-! CoordinationServiceModel.appendName -/
def fX8_appendName (h0 : Nat) (x1 : Int32) : jm_P Int32 := jm_bd (fX8_in x1.toInt64 0 5) fun v1 => (if v1 = 0 then jm_ret (-1) else jm_rd (jm_gI (some h0) 9 20) fun v3 => (if v3 = 4 then jm_ret (-7) else jm_rd (jm_gR (some h0) 9 21) fun v5 => jm_rd (jm_gI (some h0) 9 20) fun v6 => jm_wr (jm_si v5 0 v6 x1) <| jm_rd (jm_gI (some h0) 9 20) fun v8 => jm_wr (jm_p (some h0) 9 20 (.inl (v8 + 1))) <| jm_rd (jm_gI (some h0) 9 20) fun v10 => jm_ret v10))
theorem inX8_appendName_X8 : ∀ w ∈ wsX80, w ∈ wsX8_appendName := fun _ h => List.mem_cons_of_mem _ (List.mem_append_right _ h)
theorem moX8_appendName (h0 : Nat) (x1 : Int32) : jm_Mo (fX8_appendName h0 x1) := by
  unfold fX8_appendName
  exact jm_Mo_bd (moX8_in _ _ _) (fun _ => jm_Mo_if (jm_Mo_ret _) (jm_Mo_rd (fun _ => jm_Mo_if (jm_Mo_ret _) (jm_Mo_rd (fun _ => jm_Mo_rd (fun _ => jm_Mo_wr jm_si_st (jm_Mo_rd (fun _ => jm_Mo_wr jm_p_st (jm_Mo_rd (fun _ => jm_Mo_ret _))))))))))
set_option maxHeartbeats 4000000 in
set_option maxRecDepth 100000 in
theorem kX8_appendName {rv : Int32} {Sf : jm_S} (C : jm_C G cX8_appendName 2 RX8 wsX8_appendName ((some .int)) p s m args meth c) : ∀ (h0 : Nat) (x1 : Int32) {S : jm_S} {H : Heap} {locs : List Loc} {ls : Array Slot}, fX8_appendName h0 x1 S = some (rv, Sf) → jm_J G S H → va_S (jm_A G) s.heap H locs → jm_L ls 2 [(0, .inr (some h0)), (1, .inl x1)] → W p l e ({ frames := 1, cells := 0, slots := 0, locals := 25 } : Room) s m args below meth c H locs 0 0 (MQ below (jm_Q G (some (.int rv)) Sf) args s 0 0 (jm_A G)) (F0 m 0 ls []) := by
  intro h0 x1 S H locs ls hf hJ hS hl
  unfold fX8_appendName at hf
  refine lv_iload_n C.1 C.2.1 dX8_appendName_0 rfl (hl.at 1 rfl) ?_
  refine lv_i2l C.1 C.2.1 dX8_appendName_1 rfl ?_
  refine lv_lconst (v := 0) C.1 C.2.1 dX8_appendName_2 (by decide) ?_
  refine lv_ldc2 (v := 5) C.1 C.2.1 C.2.2.2.1 (jm_w C 1 rfl) dX8_appendName_3 ?_
  obtain ⟨v1, S1, h1, hf⟩ := jm_bd_ok hf
  refine jw_cS C hJ hS (cX8_in_C l G x1.toInt64 0 5 h1) (va_cwS 3 C.2.2.2.2.1 gX8_appendName_X8_in rfl rfl rfl (by decide +kernel) ⟨Nat.le_of_ble_eq_true rfl, Nat.le_of_ble_eq_true rfl⟩) rfl hl.1 rfl (Nat.le_of_ble_eq_true rfl) dX8_appendName_6 ⟨Nat.le_refl _, Nat.le_refl _⟩ (fun H locs hJ hS => ?_)
  refine lv_if_ne (tgt := 14) C.1 C.2.1 dX8_appendName_9 (by decide) (fun hq2 => ?_) (fun hq2 => ?_)
  · replace hf := jm_iff hf hq2
    refine jw_aload_n C dX8_appendName_14 rfl (hl.at 0 rfl) ?_
    obtain ⟨v3, h3, hf⟩ := jm_rd_ok hf
    refine jw_gI (Cn := RX8) (T := TX8) (N := 29) C hJ h3 rfl inX8_appendName_X8 (by decide) (jm_w C 2 rfl) (fun _ h => h) dX8_appendName_15 ?_
    refine lv_iconst (v := 4) C.1 C.2.1 dX8_appendName_18 (by decide) ?_
    refine lv_icmp_ne (tgt := 25) C.1 C.2.1 dX8_appendName_19 (by decide) (fun hq4 => ?_) (fun hq4 => ?_)
    · replace hf := jm_iff hf hq4
      refine jw_aload_n C dX8_appendName_25 rfl (hl.at 0 rfl) ?_
      obtain ⟨v5, h5, hf⟩ := jm_rd_ok hf
      refine jw_gR (Cn := RX8) (T := TX8) (N := 29) C hJ h5 rfl inX8_appendName_X8 (by decide) (jm_w C 3 rfl) (fun _ h => h) dX8_appendName_26 ?_
      refine jw_aload_n C dX8_appendName_29 rfl (hl.at 0 rfl) ?_
      obtain ⟨v6, h6, hf⟩ := jm_rd_ok hf
      refine jw_gI (Cn := RX8) (T := TX8) (N := 29) C hJ h6 rfl inX8_appendName_X8 (by decide) (jm_w C 2 rfl) (fun _ h => h) dX8_appendName_30 ?_
      refine lv_iload_n C.1 C.2.1 dX8_appendName_33 rfl (hl.at 1 rfl) ?_
      obtain ⟨S7, h7, hf⟩ := jm_wr_ok hf
      refine jw_iastore C hJ hS h7 dX8_appendName_34 (fun H locs hJ hS => ?_)
      refine jw_aload_n C dX8_appendName_35 rfl (hl.at 0 rfl) ?_
      refine lv_dup C.1 C.2.1 dX8_appendName_36 (jm_catr _) ?_
      obtain ⟨v8, h8, hf⟩ := jm_rd_ok hf
      refine jw_gI (Cn := RX8) (T := TX8) (N := 29) C hJ h8 rfl inX8_appendName_X8 (by decide) (jm_w C 2 rfl) (fun _ h => h) dX8_appendName_37 ?_
      refine lv_iconst (v := 1) C.1 C.2.1 dX8_appendName_40 (by decide) ?_
      refine lv_iadd C.1 C.2.1 dX8_appendName_41 ?_
      obtain ⟨S9, h9, hf⟩ := jm_wr_ok hf
      refine jw_p (x := .inl (v8 + 1)) (ty := .int) (Cn := RX8) (T := TX8) (N := 29) C hJ hS h9 rfl inX8_appendName_X8 tyX8 tyX8_ok nmX8 (by decide) (jm_w C 2 rfl) (fun _ h => h) rfl (by decide +kernel) rfl rfl dX8_appendName_42 (fun H locs hJ hS => ?_)
      refine jw_aload_n C dX8_appendName_45 rfl (hl.at 0 rfl) ?_
      obtain ⟨v10, h10, hf⟩ := jm_rd_ok hf
      refine jw_gI (Cn := RX8) (T := TX8) (N := 29) C hJ h10 rfl inX8_appendName_X8 (by decide) (jm_w C 2 rfl) (fun _ h => h) dX8_appendName_46 ?_
      obtain ⟨rfl, rfl⟩ := jm_ret_ok hf
      exact jw_ri C hJ hS (Nat.le_refl _) (Nat.le_refl _) dX8_appendName_49
    · replace hf := jm_ift hf hq4
      refine lv_bipush (v := (-7)) C.1 C.2.1 dX8_appendName_22 (by decide) ?_
      obtain ⟨rfl, rfl⟩ := jm_ret_ok hf
      exact jw_ri C hJ hS (Nat.le_refl _) (Nat.le_refl _) dX8_appendName_24
  · replace hf := jm_ift hf hq2
    refine lv_iconst (v := (-1)) C.1 C.2.1 dX8_appendName_12 (by decide) ?_
    obtain ⟨rfl, rfl⟩ := jm_ret_ok hf
    exact jw_ri C hJ hS (Nat.le_refl _) (Nat.le_refl _) dX8_appendName_13
set_option maxHeartbeats 4000000 in
set_option maxRecDepth 100000 in
theorem cX8_appendName_C (l : Launch) (G : jm_G) (h0 : Nat) (x1 : Int32) {S Sf : jm_S} {rv : Int32} (hf : fX8_appendName h0 x1 S = some (rv, Sf)) : Met l yX8_appendName wsX8_appendName ({ frames := 1, cells := 0, slots := 0, locals := 25 } : Room) (jm_Pc G S [.ref h0, .int x1]) (jm_Q G (some (.int rv)) Sf) 0 0 (jm_A G) := by
  refine Met.ofW (cc := cX8_appendName) (maxL := 2) (ret := (some .int)) (by decide) rfl ?_
  intro p e s m args below meth c s₁ B hml hv
  obtain ⟨rfl, hJ, hX⟩ := hv
  have C : jm_C G cX8_appendName 2 RX8 wsX8_appendName ((some .int)) p s m _ meth c := ⟨B.exec, B.bytes, hml, findClass_of_methodNamed B.named, atoms_spec (ws := wsX8_appendName) B.pre, B.returns, B.notSynchronized, hX⟩
  obtain ⟨ls, he, hl⟩ := jm_entry m [.inr (some h0), .inl x1] (n := 2) (Nat.le_of_ble_eq_true rfl)
  have he : entryFrame m ([.ref h0, .int x1] : List Value).toArray 2 = F0 m 0 ls [] := he
  rw [he]
  exact kX8_appendName C h0 x1 hf hJ va_S.rf (hl.sub [0, 1] rfl)
/-! CoordinationServiceModel.clearPath -/
def fX8_clearPath (h0 : Nat) : jm_P Int32 := jm_rd (jm_gI (some h0) 9 20) fun v1 => jm_wr (jm_p (some h0) 9 20 (.inl 0)) <| jm_ret v1
theorem inX8_clearPath_X8 : ∀ w ∈ wsX80, w ∈ wsX8_clearPath := fun _ h => List.mem_cons_of_mem _ (List.mem_append_right _ h)
theorem moX8_clearPath (h0 : Nat) : jm_Mo (fX8_clearPath h0) := by
  unfold fX8_clearPath
  exact jm_Mo_rd (fun _ => jm_Mo_wr jm_p_st (jm_Mo_ret _))
set_option maxHeartbeats 4000000 in
set_option maxRecDepth 100000 in
theorem kX8_clearPath {rv : Int32} {Sf : jm_S} (C : jm_C G cX8_clearPath 2 RX8 wsX8_clearPath ((some .int)) p s m args meth c) : ∀ (h0 : Nat) {S : jm_S} {H : Heap} {locs : List Loc} {ls : Array Slot}, fX8_clearPath h0 S = some (rv, Sf) → jm_J G S H → va_S (jm_A G) s.heap H locs → jm_L ls 2 [(0, .inr (some h0))] → W p l e ({ frames := 0, cells := 0, slots := 0, locals := 0 } : Room) s m args below meth c H locs 0 0 (MQ below (jm_Q G (some (.int rv)) Sf) args s 0 0 (jm_A G)) (F0 m 0 ls []) := by
  intro h0 S H locs ls hf hJ hS hl
  unfold fX8_clearPath at hf
  refine jw_aload_n C dX8_clearPath_0 rfl (hl.at 0 rfl) ?_
  obtain ⟨v1, h1, hf⟩ := jm_rd_ok hf
  refine jw_gI (Cn := RX8) (T := TX8) (N := 29) C hJ h1 rfl inX8_clearPath_X8 (by decide) (jm_w C 1 rfl) (fun _ h => h) dX8_clearPath_1 ?_
  refine jw_istore_n C dX8_clearPath_4 rfl hl (by decide) rfl (fun ls hl => ?_)
  refine jw_aload_n C dX8_clearPath_5 rfl (hl.at 1 rfl) ?_
  refine lv_iconst (v := 0) C.1 C.2.1 dX8_clearPath_6 (by decide) ?_
  obtain ⟨S2, h2, hf⟩ := jm_wr_ok hf
  refine jw_p (x := .inl 0) (ty := .int) (Cn := RX8) (T := TX8) (N := 29) C hJ hS h2 rfl inX8_clearPath_X8 tyX8 tyX8_ok nmX8 (by decide) (jm_w C 1 rfl) (fun _ h => h) rfl (by decide +kernel) rfl rfl dX8_clearPath_7 (fun H locs hJ hS => ?_)
  refine lv_iload_n C.1 C.2.1 dX8_clearPath_10 rfl (hl.at 0 rfl) ?_
  obtain ⟨rfl, rfl⟩ := jm_ret_ok hf
  exact jw_ri C hJ hS (Nat.le_refl _) (Nat.le_refl _) dX8_clearPath_11
set_option maxHeartbeats 4000000 in
set_option maxRecDepth 100000 in
theorem cX8_clearPath_C (l : Launch) (G : jm_G) (h0 : Nat) {S Sf : jm_S} {rv : Int32} (hf : fX8_clearPath h0 S = some (rv, Sf)) : Met l yX8_clearPath wsX8_clearPath ({ frames := 0, cells := 0, slots := 0, locals := 0 } : Room) (jm_Pc G S [.ref h0]) (jm_Q G (some (.int rv)) Sf) 0 0 (jm_A G) := by
  refine Met.ofW (cc := cX8_clearPath) (maxL := 2) (ret := (some .int)) (by decide) rfl ?_
  intro p e s m args below meth c s₁ B hml hv
  obtain ⟨rfl, hJ, hX⟩ := hv
  have C : jm_C G cX8_clearPath 2 RX8 wsX8_clearPath ((some .int)) p s m _ meth c := ⟨B.exec, B.bytes, hml, findClass_of_methodNamed B.named, atoms_spec (ws := wsX8_clearPath) B.pre, B.returns, B.notSynchronized, hX⟩
  obtain ⟨ls, he, hl⟩ := jm_entry m [.inr (some h0)] (n := 2) (Nat.le_of_ble_eq_true rfl)
  have he : entryFrame m ([.ref h0] : List Value).toArray 2 = F0 m 0 ls [] := he
  rw [he]
  exact kX8_clearPath C h0 hf hJ va_S.rf (hl.sub [0] rfl)
/-! CoordinationServiceModel.find -/
def fX8_find_2 : Nat → Nat → Int32 → Int32 → Int32 → jm_P Int32
  | 0, _, _, _, _ => jm_no
  | n + 1, h0, x1, x2, x3 => jm_rd (jm_gR (some h0) 9 15) fun v1 => jm_rd (jm_gi v1 0 x1) fun v2 => (if v2 ≤ x3 then jm_ret (-8) else jm_rd (jm_gR (some h0) 9 16) fun v4 => jm_rd (jm_gi v4 0 ((12 * x1) + x3)) fun v5 => (if v5 = x2 then jm_ret ((12 * x1) + x3) else fX8_find_2 n h0 x1 x2 (x3 + 1)))
def fX8_find (h0 : Nat) (x1 : Int32) (x2 : Int32) : jm_P Int32 := fX8_find_2 4096 h0 x1 x2 0
theorem inX8_find_X8 : ∀ w ∈ wsX80, w ∈ wsX8_find := fun _ h => List.mem_cons_of_mem _ (List.mem_append_right _ h)
theorem moX8_find_2 : ∀ (n : Nat) (h0 : Nat) (x1 : Int32) (x2 : Int32) (x3 : Int32), jm_Mo (fX8_find_2 n h0 x1 x2 x3) := by
  intro n
  induction n with
  | zero =>
    intro h0 x1 x2 x3
    rw [fX8_find_2]
    exact jm_Mo_no
  | succ n ih =>
    intro h0 x1 x2 x3
    rw [fX8_find_2]
    exact jm_Mo_rd (fun _ => jm_Mo_rd (fun _ => jm_Mo_if (jm_Mo_ret _) (jm_Mo_rd (fun _ => jm_Mo_rd (fun _ => jm_Mo_if (jm_Mo_ret _) (ih _ _ _ _))))))
set_option maxHeartbeats 4000000 in
set_option maxRecDepth 100000 in
theorem kX8_find_2 {rv : Int32} {Sf : jm_S} (C : jm_C G cX8_find 4 RX8 wsX8_find ((some .int)) p s m args meth c) : ∀ (n : Nat) (h0 : Nat) (x1 : Int32) (x2 : Int32) (x3 : Int32) {S : jm_S} {H : Heap} {locs : List Loc} {ls : Array Slot}, fX8_find_2 n h0 x1 x2 x3 S = some (rv, Sf) → jm_J G S H → va_S (jm_A G) s.heap H locs → jm_L ls 4 [(0, .inr (some h0)), (1, .inl x1), (2, .inl x2), (3, .inl x3)] → W p l e ({ frames := 0, cells := 0, slots := 0, locals := 0 } : Room) s m args below meth c H locs 0 0 (MQ below (jm_Q G (some (.int rv)) Sf) args s 0 0 (jm_A G)) (F0 m 2 ls []) := by
  intro n
  induction n with
  | zero =>
    intro h0 x1 x2 x3 S H locs ls hf
    rw [fX8_find_2] at hf
    exact absurd hf (fun h => jm_no_ok h)
  | succ n ih =>
    intro h0 x1 x2 x3 S H locs ls hf hJ hS hl
    rw [fX8_find_2] at hf
    refine lv_iload_n C.1 C.2.1 dX8_find_2 rfl (hl.at 3 rfl) ?_
    refine jw_aload_n C dX8_find_3 rfl (hl.at 0 rfl) ?_
    obtain ⟨v1, h1, hf⟩ := jm_rd_ok hf
    refine jw_gR (Cn := RX8) (T := TX8) (N := 29) C hJ h1 rfl inX8_find_X8 (by decide) (jm_w C 1 rfl) (fun _ h => h) dX8_find_4 ?_
    refine lv_iload_n C.1 C.2.1 dX8_find_7 rfl (hl.at 1 rfl) ?_
    obtain ⟨v2, h2, hf⟩ := jm_rd_ok hf
    refine jw_iaload C hJ h2 dX8_find_8 ?_
    refine lv_icmp_ge (tgt := 40) C.1 C.2.1 dX8_find_9 (by decide) (fun hq3 => ?_) (fun hq3 => ?_)
    · replace hf := jm_ift hf hq3
      refine lv_bipush (v := (-8)) C.1 C.2.1 dX8_find_40 (by decide) ?_
      obtain ⟨rfl, rfl⟩ := jm_ret_ok hf
      exact jw_ri C hJ hS (Nat.le_refl _) (Nat.le_refl _) dX8_find_42
    · replace hf := jm_iff hf hq3
      refine jw_aload_n C dX8_find_12 rfl (hl.at 0 rfl) ?_
      obtain ⟨v4, h4, hf⟩ := jm_rd_ok hf
      refine jw_gR (Cn := RX8) (T := TX8) (N := 29) C hJ h4 rfl inX8_find_X8 (by decide) (jm_w C 2 rfl) (fun _ h => h) dX8_find_13 ?_
      refine lv_bipush (v := 12) C.1 C.2.1 dX8_find_16 (by decide) ?_
      refine lv_iload_n C.1 C.2.1 dX8_find_18 rfl (hl.at 1 rfl) ?_
      refine lv_imul C.1 C.2.1 dX8_find_19 ?_
      refine lv_iload_n C.1 C.2.1 dX8_find_20 rfl (hl.at 3 rfl) ?_
      refine lv_iadd C.1 C.2.1 dX8_find_21 ?_
      obtain ⟨v5, h5, hf⟩ := jm_rd_ok hf
      refine jw_iaload C hJ h5 dX8_find_22 ?_
      refine lv_iload_n C.1 C.2.1 dX8_find_23 rfl (hl.at 2 rfl) ?_
      refine lv_icmp_ne (tgt := 34) C.1 C.2.1 dX8_find_24 (by decide) (fun hq6 => ?_) (fun hq6 => ?_)
      · replace hf := jm_iff hf hq6
        refine jw_iinc (v := x3 + 1) C 3 dX8_find_34 hl rfl (by rfl) (by decide) rfl (fun ls hl => ?_)
        refine lv_goto (tgt := 2) C.1 C.2.1 dX8_find_37 (by decide) ?_
        exact ih h0 x1 x2 (x3 + 1) hf hJ hS (hl.sub [1, 2, 3, 0] rfl)
      · replace hf := jm_ift hf hq6
        refine lv_bipush (v := 12) C.1 C.2.1 dX8_find_27 (by decide) ?_
        refine lv_iload_n C.1 C.2.1 dX8_find_29 rfl (hl.at 1 rfl) ?_
        refine lv_imul C.1 C.2.1 dX8_find_30 ?_
        refine lv_iload_n C.1 C.2.1 dX8_find_31 rfl (hl.at 3 rfl) ?_
        refine lv_iadd C.1 C.2.1 dX8_find_32 ?_
        obtain ⟨rfl, rfl⟩ := jm_ret_ok hf
        exact jw_ri C hJ hS (Nat.le_refl _) (Nat.le_refl _) dX8_find_33
theorem moX8_find (h0 : Nat) (x1 : Int32) (x2 : Int32) : jm_Mo (fX8_find h0 x1 x2) := by
  unfold fX8_find
  exact moX8_find_2 _ _ _ _ _
set_option maxHeartbeats 4000000 in
set_option maxRecDepth 100000 in
theorem kX8_find {rv : Int32} {Sf : jm_S} (C : jm_C G cX8_find 4 RX8 wsX8_find ((some .int)) p s m args meth c) : ∀ (h0 : Nat) (x1 : Int32) (x2 : Int32) {S : jm_S} {H : Heap} {locs : List Loc} {ls : Array Slot}, fX8_find h0 x1 x2 S = some (rv, Sf) → jm_J G S H → va_S (jm_A G) s.heap H locs → jm_L ls 4 [(0, .inr (some h0)), (1, .inl x1), (2, .inl x2)] → W p l e ({ frames := 0, cells := 0, slots := 0, locals := 0 } : Room) s m args below meth c H locs 0 0 (MQ below (jm_Q G (some (.int rv)) Sf) args s 0 0 (jm_A G)) (F0 m 0 ls []) := by
  intro h0 x1 x2 S H locs ls hf hJ hS hl
  unfold fX8_find at hf
  refine lv_iconst (v := 0) C.1 C.2.1 dX8_find_0 (by decide) ?_
  refine jw_istore_n C dX8_find_1 rfl hl (by decide) rfl (fun ls hl => ?_)
  exact kX8_find_2 C 4096 h0 x1 x2 0 hf hJ hS (hl.sub [1, 2, 3, 0] rfl)
set_option maxHeartbeats 4000000 in
set_option maxRecDepth 100000 in
theorem cX8_find_C (l : Launch) (G : jm_G) (h0 : Nat) (x1 : Int32) (x2 : Int32) {S Sf : jm_S} {rv : Int32} (hf : fX8_find h0 x1 x2 S = some (rv, Sf)) : Met l yX8_find wsX8_find ({ frames := 0, cells := 0, slots := 0, locals := 0 } : Room) (jm_Pc G S [.ref h0, .int x1, .int x2]) (jm_Q G (some (.int rv)) Sf) 0 0 (jm_A G) := by
  refine Met.ofW (cc := cX8_find) (maxL := 4) (ret := (some .int)) (by decide) rfl ?_
  intro p e s m args below meth c s₁ B hml hv
  obtain ⟨rfl, hJ, hX⟩ := hv
  have C : jm_C G cX8_find 4 RX8 wsX8_find ((some .int)) p s m _ meth c := ⟨B.exec, B.bytes, hml, findClass_of_methodNamed B.named, atoms_spec (ws := wsX8_find) B.pre, B.returns, B.notSynchronized, hX⟩
  obtain ⟨ls, he, hl⟩ := jm_entry m [.inr (some h0), .inl x1, .inl x2] (n := 4) (Nat.le_of_ble_eq_true rfl)
  have he : entryFrame m ([.ref h0, .int x1, .int x2] : List Value).toArray 4 = F0 m 0 ls [] := he
  rw [he]
  exact kX8_find C h0 x1 x2 hf hJ va_S.rf (hl.sub [0, 1, 2] rfl)
/-! CoordinationServiceModel.children -/
def fX8_children_5 : Nat → Nat → Int32 → Int32 → Int32 → Int32 → jm_P Int32
  | 0, _, _, _, _, _ => jm_no
  | n + 1, h0, x1, x2, x3, x4 => jm_rd (jm_gR (some h0) 9 15) fun v1 => jm_rd (jm_gi v1 0 x1) fun v2 => (if v2 ≤ x4 then jm_ret x3 else jm_rd (jm_gR (some h0) 9 16) fun v4 => jm_rd (jm_gi v4 0 ((12 * x1) + x4)) fun v5 => jm_bd (fX8_parentOf v5) fun v6 => (if v6 = x2 then fX8_children_5 n h0 x1 x2 (x3 + 1) (x4 + 1) else fX8_children_5 n h0 x1 x2 (x3 + 0) (x4 + 1)))
def fX8_children (h0 : Nat) (x1 : Int32) (x2 : Int32) : jm_P Int32 := fX8_children_5 4096 h0 x1 x2 0 0
theorem inX8_children_X8 : ∀ w ∈ wsX80, w ∈ wsX8_children := fun _ h => List.mem_cons_of_mem _ (List.mem_append_right _ h)
theorem moX8_children_5 : ∀ (n : Nat) (h0 : Nat) (x1 : Int32) (x2 : Int32) (x3 : Int32) (x4 : Int32), jm_Mo (fX8_children_5 n h0 x1 x2 x3 x4) := by
  intro n
  induction n with
  | zero =>
    intro h0 x1 x2 x3 x4
    rw [fX8_children_5]
    exact jm_Mo_no
  | succ n ih =>
    intro h0 x1 x2 x3 x4
    rw [fX8_children_5]
    exact jm_Mo_rd (fun _ => jm_Mo_rd (fun _ => jm_Mo_if (jm_Mo_ret _) (jm_Mo_rd (fun _ => jm_Mo_rd (fun _ => jm_Mo_bd (moX8_parentOf _) (fun _ => jm_Mo_if (ih _ _ _ _ _) (ih _ _ _ _ _)))))))
set_option maxHeartbeats 4000000 in
set_option maxRecDepth 100000 in
theorem kX8_children_5 {rv : Int32} {Sf : jm_S} (C : jm_C G cX8_children 5 RX8 wsX8_children ((some .int)) p s m args meth c) : ∀ (n : Nat) (h0 : Nat) (x1 : Int32) (x2 : Int32) (x3 : Int32) (x4 : Int32) {S : jm_S} {H : Heap} {locs : List Loc} {ls : Array Slot}, fX8_children_5 n h0 x1 x2 x3 x4 S = some (rv, Sf) → jm_J G S H → va_S (jm_A G) s.heap H locs → jm_L ls 5 [(0, .inr (some h0)), (1, .inl x1), (2, .inl x2), (3, .inl x3), (4, .inl x4)] → W p l e ({ frames := 2, cells := 0, slots := 0, locals := 42 } : Room) s m args below meth c H locs 0 0 (MQ below (jm_Q G (some (.int rv)) Sf) args s 0 0 (jm_A G)) (F0 m 5 ls []) := by
  intro n
  induction n with
  | zero =>
    intro h0 x1 x2 x3 x4 S H locs ls hf
    rw [fX8_children_5] at hf
    exact absurd hf (fun h => jm_no_ok h)
  | succ n ih =>
    intro h0 x1 x2 x3 x4 S H locs ls hf hJ hS hl
    rw [fX8_children_5] at hf
    refine lv_iload C.1 C.2.1 dX8_children_5 (hl.at 4 rfl) ?_
    refine jw_aload_n C dX8_children_7 rfl (hl.at 0 rfl) ?_
    obtain ⟨v1, h1, hf⟩ := jm_rd_ok hf
    refine jw_gR (Cn := RX8) (T := TX8) (N := 29) C hJ h1 rfl inX8_children_X8 (by decide) (jm_w C 1 rfl) (fun _ h => h) dX8_children_8 ?_
    refine lv_iload_n C.1 C.2.1 dX8_children_11 rfl (hl.at 1 rfl) ?_
    obtain ⟨v2, h2, hf⟩ := jm_rd_ok hf
    refine jw_iaload C hJ h2 dX8_children_12 ?_
    refine lv_icmp_ge (tgt := 49) C.1 C.2.1 dX8_children_13 (by decide) (fun hq3 => ?_) (fun hq3 => ?_)
    · replace hf := jm_ift hf hq3
      refine lv_iload_n C.1 C.2.1 dX8_children_49 rfl (hl.at 3 rfl) ?_
      obtain ⟨rfl, rfl⟩ := jm_ret_ok hf
      exact jw_ri C hJ hS (Nat.le_refl _) (Nat.le_refl _) dX8_children_50
    · replace hf := jm_iff hf hq3
      refine lv_iload_n C.1 C.2.1 dX8_children_16 rfl (hl.at 3 rfl) ?_
      refine jw_aload_n C dX8_children_17 rfl (hl.at 0 rfl) ?_
      obtain ⟨v4, h4, hf⟩ := jm_rd_ok hf
      refine jw_gR (Cn := RX8) (T := TX8) (N := 29) C hJ h4 rfl inX8_children_X8 (by decide) (jm_w C 2 rfl) (fun _ h => h) dX8_children_18 ?_
      refine lv_bipush (v := 12) C.1 C.2.1 dX8_children_21 (by decide) ?_
      refine lv_iload_n C.1 C.2.1 dX8_children_23 rfl (hl.at 1 rfl) ?_
      refine lv_imul C.1 C.2.1 dX8_children_24 ?_
      refine lv_iload C.1 C.2.1 dX8_children_25 (hl.at 4 rfl) ?_
      refine lv_iadd C.1 C.2.1 dX8_children_27 ?_
      obtain ⟨v5, h5, hf⟩ := jm_rd_ok hf
      refine jw_iaload C hJ h5 dX8_children_28 ?_
      obtain ⟨v6, S6, h6, hf⟩ := jm_bd_ok hf
      refine jw_cS C hJ hS (cX8_parentOf_C l G v5 h6) (va_cwS 1 C.2.2.2.2.1 gX8_children_X8_parentOf rfl rfl rfl (by decide +kernel) ⟨Nat.le_of_ble_eq_true rfl, Nat.le_of_ble_eq_true rfl⟩) rfl hl.1 rfl (Nat.le_of_ble_eq_true rfl) dX8_children_29 ⟨Nat.le_refl _, Nat.le_refl _⟩ (fun H locs hJ hS => ?_)
      refine lv_iload_n C.1 C.2.1 dX8_children_32 rfl (hl.at 2 rfl) ?_
      refine lv_icmp_ne (tgt := 40) C.1 C.2.1 dX8_children_33 (by decide) (fun hq7 => ?_) (fun hq7 => ?_)
      · replace hf := jm_iff hf hq7
        refine lv_iconst (v := 0) C.1 C.2.1 dX8_children_40 (by decide) ?_
        refine lv_iadd C.1 C.2.1 dX8_children_41 ?_
        refine jw_istore_n C dX8_children_42 rfl hl (by decide) rfl (fun ls hl => ?_)
        refine jw_iinc (v := x4 + 1) C 4 dX8_children_43 hl rfl (by rfl) (by decide) rfl (fun ls hl => ?_)
        refine lv_goto (tgt := 5) C.1 C.2.1 dX8_children_46 (by decide) ?_
        exact ih h0 x1 x2 (x3 + 0) (x4 + 1) hf hJ hS (hl.sub [2, 3, 4, 1, 0] rfl)
      · replace hf := jm_ift hf hq7
        refine lv_iconst (v := 1) C.1 C.2.1 dX8_children_36 (by decide) ?_
        refine lv_goto (tgt := 41) C.1 C.2.1 dX8_children_37 (by decide) ?_
        refine lv_iadd C.1 C.2.1 dX8_children_41 ?_
        refine jw_istore_n C dX8_children_42 rfl hl (by decide) rfl (fun ls hl => ?_)
        refine jw_iinc (v := x4 + 1) C 4 dX8_children_43 hl rfl (by rfl) (by decide) rfl (fun ls hl => ?_)
        refine lv_goto (tgt := 5) C.1 C.2.1 dX8_children_46 (by decide) ?_
        exact ih h0 x1 x2 (x3 + 1) (x4 + 1) hf hJ hS (hl.sub [2, 3, 4, 1, 0] rfl)
theorem moX8_children (h0 : Nat) (x1 : Int32) (x2 : Int32) : jm_Mo (fX8_children h0 x1 x2) := by
  unfold fX8_children
  exact moX8_children_5 _ _ _ _ _ _
set_option maxHeartbeats 4000000 in
set_option maxRecDepth 100000 in
theorem kX8_children {rv : Int32} {Sf : jm_S} (C : jm_C G cX8_children 5 RX8 wsX8_children ((some .int)) p s m args meth c) : ∀ (h0 : Nat) (x1 : Int32) (x2 : Int32) {S : jm_S} {H : Heap} {locs : List Loc} {ls : Array Slot}, fX8_children h0 x1 x2 S = some (rv, Sf) → jm_J G S H → va_S (jm_A G) s.heap H locs → jm_L ls 5 [(0, .inr (some h0)), (1, .inl x1), (2, .inl x2)] → W p l e ({ frames := 2, cells := 0, slots := 0, locals := 42 } : Room) s m args below meth c H locs 0 0 (MQ below (jm_Q G (some (.int rv)) Sf) args s 0 0 (jm_A G)) (F0 m 0 ls []) := by
  intro h0 x1 x2 S H locs ls hf hJ hS hl
  unfold fX8_children at hf
  refine lv_iconst (v := 0) C.1 C.2.1 dX8_children_0 (by decide) ?_
  refine jw_istore_n C dX8_children_1 rfl hl (by decide) rfl (fun ls hl => ?_)
  refine lv_iconst (v := 0) C.1 C.2.1 dX8_children_2 (by decide) ?_
  refine jw_istore C dX8_children_3 hl (by decide) rfl (fun ls hl => ?_)
  exact kX8_children_5 C 4096 h0 x1 x2 0 0 hf hJ hS (hl.sub [2, 3, 4, 1, 0] rfl)
set_option maxHeartbeats 4000000 in
set_option maxRecDepth 100000 in
theorem cX8_children_C (l : Launch) (G : jm_G) (h0 : Nat) (x1 : Int32) (x2 : Int32) {S Sf : jm_S} {rv : Int32} (hf : fX8_children h0 x1 x2 S = some (rv, Sf)) : Met l yX8_children wsX8_children ({ frames := 2, cells := 0, slots := 0, locals := 42 } : Room) (jm_Pc G S [.ref h0, .int x1, .int x2]) (jm_Q G (some (.int rv)) Sf) 0 0 (jm_A G) := by
  refine Met.ofW (cc := cX8_children) (maxL := 5) (ret := (some .int)) (by decide) rfl ?_
  intro p e s m args below meth c s₁ B hml hv
  obtain ⟨rfl, hJ, hX⟩ := hv
  have C : jm_C G cX8_children 5 RX8 wsX8_children ((some .int)) p s m _ meth c := ⟨B.exec, B.bytes, hml, findClass_of_methodNamed B.named, atoms_spec (ws := wsX8_children) B.pre, B.returns, B.notSynchronized, hX⟩
  obtain ⟨ls, he, hl⟩ := jm_entry m [.inr (some h0), .inl x1, .inl x2] (n := 5) (Nat.le_of_ble_eq_true rfl)
  have he : entryFrame m ([.ref h0, .int x1, .int x2] : List Value).toArray 5 = F0 m 0 ls [] := he
  rw [he]
  exact kX8_children C h0 x1 x2 hf hJ va_S.rf (hl.sub [0, 1, 2] rfl)
/-! CoordinationServiceModel.removes -/
def fX8_removes (h0 : Nat) (x1 : Int32) (x2 : Int32) : jm_P Unit := jm_rd (jm_gR (some h0) 9 15) fun v1 => jm_rd (jm_gi v1 0 x1) fun v2 => jm_wr (jm_si v1 0 x1 (v2 - 1)) <| jm_rd (jm_gR (some h0) 9 15) fun v4 => jm_rd (jm_gi v4 0 x1) fun v5 => jm_rd (jm_gR (some h0) 9 16) fun v6 => jm_rd (jm_gR (some h0) 9 16) fun v7 => jm_rd (jm_gi v7 0 ((12 * x1) + v5)) fun v8 => jm_wr (jm_si v6 0 x2 v8) <| jm_rd (jm_gR (some h0) 9 17) fun v10 => jm_rd (jm_gR (some h0) 9 17) fun v11 => jm_rd (jm_gi v11 0 ((12 * x1) + v5)) fun v12 => jm_wr (jm_si v10 0 x2 v12) <| jm_rd (jm_gR (some h0) 9 18) fun v14 => jm_rd (jm_gR (some h0) 9 18) fun v15 => jm_rd (jm_gi v15 0 ((12 * x1) + v5)) fun v16 => jm_wr (jm_si v14 0 x2 v16) <| jm_rd (jm_gR (some h0) 9 19) fun v18 => jm_rd (jm_gR (some h0) 9 19) fun v19 => jm_rd (jm_gi v19 0 ((12 * x1) + v5)) fun v20 => jm_wr (jm_si v18 0 x2 v20) <| jm_ret ()
theorem inX8_removes_X8 : ∀ w ∈ wsX80, w ∈ wsX8_removes := fun _ h => List.mem_cons_of_mem _ (List.mem_append_right _ h)
theorem moX8_removes (h0 : Nat) (x1 : Int32) (x2 : Int32) : jm_Mo (fX8_removes h0 x1 x2) := by
  unfold fX8_removes
  exact jm_Mo_rd (fun _ => jm_Mo_rd (fun _ => jm_Mo_wr jm_si_st (jm_Mo_rd (fun _ => jm_Mo_rd (fun _ => jm_Mo_rd (fun _ => jm_Mo_rd (fun _ => jm_Mo_rd (fun _ => jm_Mo_wr jm_si_st (jm_Mo_rd (fun _ => jm_Mo_rd (fun _ => jm_Mo_rd (fun _ => jm_Mo_wr jm_si_st (jm_Mo_rd (fun _ => jm_Mo_rd (fun _ => jm_Mo_rd (fun _ => jm_Mo_wr jm_si_st (jm_Mo_rd (fun _ => jm_Mo_rd (fun _ => jm_Mo_rd (fun _ => jm_Mo_wr jm_si_st (jm_Mo_ret _)))))))))))))))))))))
set_option maxHeartbeats 4000000 in
set_option maxRecDepth 100000 in
theorem kX8_removes {rv : Unit} {Sf : jm_S} (C : jm_C G cX8_removes 4 RX8 wsX8_removes (none) p s m args meth c) : ∀ (h0 : Nat) (x1 : Int32) (x2 : Int32) {S : jm_S} {H : Heap} {locs : List Loc} {ls : Array Slot}, fX8_removes h0 x1 x2 S = some (rv, Sf) → jm_J G S H → va_S (jm_A G) s.heap H locs → jm_L ls 4 [(0, .inr (some h0)), (1, .inl x1), (2, .inl x2)] → W p l e ({ frames := 0, cells := 0, slots := 0, locals := 0 } : Room) s m args below meth c H locs 0 0 (MQ below (jm_Q G (none) Sf) args s 0 0 (jm_A G)) (F0 m 0 ls []) := by
  intro h0 x1 x2 S H locs ls hf hJ hS hl
  unfold fX8_removes at hf
  refine jw_aload_n C dX8_removes_0 rfl (hl.at 0 rfl) ?_
  obtain ⟨v1, h1, hf⟩ := jm_rd_ok hf
  refine jw_gR (Cn := RX8) (T := TX8) (N := 29) C hJ h1 rfl inX8_removes_X8 (by decide) (jm_w C 1 rfl) (fun _ h => h) dX8_removes_1 ?_
  refine lv_iload_n C.1 C.2.1 dX8_removes_4 rfl (hl.at 1 rfl) ?_
  refine lv_dup2_11 C.1 C.2.1 dX8_removes_5 rfl (jm_catr _) ?_
  obtain ⟨v2, h2, hf⟩ := jm_rd_ok hf
  refine jw_iaload C hJ h2 dX8_removes_6 ?_
  refine lv_iconst (v := 1) C.1 C.2.1 dX8_removes_7 (by decide) ?_
  refine lv_isub C.1 C.2.1 dX8_removes_8 ?_
  obtain ⟨S3, h3, hf⟩ := jm_wr_ok hf
  refine jw_iastore C hJ hS h3 dX8_removes_9 (fun H locs hJ hS => ?_)
  refine lv_bipush (v := 12) C.1 C.2.1 dX8_removes_10 (by decide) ?_
  refine lv_iload_n C.1 C.2.1 dX8_removes_12 rfl (hl.at 1 rfl) ?_
  refine lv_imul C.1 C.2.1 dX8_removes_13 ?_
  refine jw_aload_n C dX8_removes_14 rfl (hl.at 0 rfl) ?_
  obtain ⟨v4, h4, hf⟩ := jm_rd_ok hf
  refine jw_gR (Cn := RX8) (T := TX8) (N := 29) C hJ h4 rfl inX8_removes_X8 (by decide) (jm_w C 1 rfl) (fun _ h => h) dX8_removes_15 ?_
  refine lv_iload_n C.1 C.2.1 dX8_removes_18 rfl (hl.at 1 rfl) ?_
  obtain ⟨v5, h5, hf⟩ := jm_rd_ok hf
  refine jw_iaload C hJ h5 dX8_removes_19 ?_
  refine lv_iadd C.1 C.2.1 dX8_removes_20 ?_
  refine jw_istore_n C dX8_removes_21 rfl hl (by decide) rfl (fun ls hl => ?_)
  refine jw_aload_n C dX8_removes_22 rfl (hl.at 1 rfl) ?_
  obtain ⟨v6, h6, hf⟩ := jm_rd_ok hf
  refine jw_gR (Cn := RX8) (T := TX8) (N := 29) C hJ h6 rfl inX8_removes_X8 (by decide) (jm_w C 2 rfl) (fun _ h => h) dX8_removes_23 ?_
  refine lv_iload_n C.1 C.2.1 dX8_removes_26 rfl (hl.at 3 rfl) ?_
  refine jw_aload_n C dX8_removes_27 rfl (hl.at 1 rfl) ?_
  obtain ⟨v7, h7, hf⟩ := jm_rd_ok hf
  refine jw_gR (Cn := RX8) (T := TX8) (N := 29) C hJ h7 rfl inX8_removes_X8 (by decide) (jm_w C 2 rfl) (fun _ h => h) dX8_removes_28 ?_
  refine lv_iload_n C.1 C.2.1 dX8_removes_31 rfl (hl.at 0 rfl) ?_
  obtain ⟨v8, h8, hf⟩ := jm_rd_ok hf
  refine jw_iaload C hJ h8 dX8_removes_32 ?_
  obtain ⟨S9, h9, hf⟩ := jm_wr_ok hf
  refine jw_iastore C hJ hS h9 dX8_removes_33 (fun H locs hJ hS => ?_)
  refine jw_aload_n C dX8_removes_34 rfl (hl.at 1 rfl) ?_
  obtain ⟨v10, h10, hf⟩ := jm_rd_ok hf
  refine jw_gR (Cn := RX8) (T := TX8) (N := 29) C hJ h10 rfl inX8_removes_X8 (by decide) (jm_w C 3 rfl) (fun _ h => h) dX8_removes_35 ?_
  refine lv_iload_n C.1 C.2.1 dX8_removes_38 rfl (hl.at 3 rfl) ?_
  refine jw_aload_n C dX8_removes_39 rfl (hl.at 1 rfl) ?_
  obtain ⟨v11, h11, hf⟩ := jm_rd_ok hf
  refine jw_gR (Cn := RX8) (T := TX8) (N := 29) C hJ h11 rfl inX8_removes_X8 (by decide) (jm_w C 3 rfl) (fun _ h => h) dX8_removes_40 ?_
  refine lv_iload_n C.1 C.2.1 dX8_removes_43 rfl (hl.at 0 rfl) ?_
  obtain ⟨v12, h12, hf⟩ := jm_rd_ok hf
  refine jw_iaload C hJ h12 dX8_removes_44 ?_
  obtain ⟨S13, h13, hf⟩ := jm_wr_ok hf
  refine jw_iastore C hJ hS h13 dX8_removes_45 (fun H locs hJ hS => ?_)
  refine jw_aload_n C dX8_removes_46 rfl (hl.at 1 rfl) ?_
  obtain ⟨v14, h14, hf⟩ := jm_rd_ok hf
  refine jw_gR (Cn := RX8) (T := TX8) (N := 29) C hJ h14 rfl inX8_removes_X8 (by decide) (jm_w C 4 rfl) (fun _ h => h) dX8_removes_47 ?_
  refine lv_iload_n C.1 C.2.1 dX8_removes_50 rfl (hl.at 3 rfl) ?_
  refine jw_aload_n C dX8_removes_51 rfl (hl.at 1 rfl) ?_
  obtain ⟨v15, h15, hf⟩ := jm_rd_ok hf
  refine jw_gR (Cn := RX8) (T := TX8) (N := 29) C hJ h15 rfl inX8_removes_X8 (by decide) (jm_w C 4 rfl) (fun _ h => h) dX8_removes_52 ?_
  refine lv_iload_n C.1 C.2.1 dX8_removes_55 rfl (hl.at 0 rfl) ?_
  obtain ⟨v16, h16, hf⟩ := jm_rd_ok hf
  refine jw_iaload C hJ h16 dX8_removes_56 ?_
  obtain ⟨S17, h17, hf⟩ := jm_wr_ok hf
  refine jw_iastore C hJ hS h17 dX8_removes_57 (fun H locs hJ hS => ?_)
  refine jw_aload_n C dX8_removes_58 rfl (hl.at 1 rfl) ?_
  obtain ⟨v18, h18, hf⟩ := jm_rd_ok hf
  refine jw_gR (Cn := RX8) (T := TX8) (N := 29) C hJ h18 rfl inX8_removes_X8 (by decide) (jm_w C 5 rfl) (fun _ h => h) dX8_removes_59 ?_
  refine lv_iload_n C.1 C.2.1 dX8_removes_62 rfl (hl.at 3 rfl) ?_
  refine jw_aload_n C dX8_removes_63 rfl (hl.at 1 rfl) ?_
  obtain ⟨v19, h19, hf⟩ := jm_rd_ok hf
  refine jw_gR (Cn := RX8) (T := TX8) (N := 29) C hJ h19 rfl inX8_removes_X8 (by decide) (jm_w C 5 rfl) (fun _ h => h) dX8_removes_64 ?_
  refine lv_iload_n C.1 C.2.1 dX8_removes_67 rfl (hl.at 0 rfl) ?_
  obtain ⟨v20, h20, hf⟩ := jm_rd_ok hf
  refine jw_iaload C hJ h20 dX8_removes_68 ?_
  obtain ⟨S21, h21, hf⟩ := jm_wr_ok hf
  refine jw_iastore C hJ hS h21 dX8_removes_69 (fun H locs hJ hS => ?_)
  obtain ⟨rfl, rfl⟩ := jm_ret_ok hf
  exact jw_rv C hJ hS (Nat.le_refl _) (Nat.le_refl _) dX8_removes_70
set_option maxHeartbeats 4000000 in
set_option maxRecDepth 100000 in
theorem cX8_removes_C (l : Launch) (G : jm_G) (h0 : Nat) (x1 : Int32) (x2 : Int32) {S Sf : jm_S} {rv : Unit} (hf : fX8_removes h0 x1 x2 S = some (rv, Sf)) : Met l yX8_removes wsX8_removes ({ frames := 0, cells := 0, slots := 0, locals := 0 } : Room) (jm_Pc G S [.ref h0, .int x1, .int x2]) (jm_Q G (none) Sf) 0 0 (jm_A G) := by
  refine Met.ofW (cc := cX8_removes) (maxL := 4) (ret := none) (by decide) rfl ?_
  intro p e s m args below meth c s₁ B hml hv
  obtain ⟨rfl, hJ, hX⟩ := hv
  have C : jm_C G cX8_removes 4 RX8 wsX8_removes (none) p s m _ meth c := ⟨B.exec, B.bytes, hml, findClass_of_methodNamed B.named, atoms_spec (ws := wsX8_removes) B.pre, B.returns, B.notSynchronized, hX⟩
  obtain ⟨ls, he, hl⟩ := jm_entry m [.inr (some h0), .inl x1, .inl x2] (n := 4) (Nat.le_of_ble_eq_true rfl)
  have he : entryFrame m ([.ref h0, .int x1, .int x2] : List Value).toArray 4 = F0 m 0 ls [] := he
  rw [he]
  exact kX8_removes C h0 x1 x2 hf hJ va_S.rf (hl.sub [0, 1, 2] rfl)
/-! CoordinationServiceModel.firstOf -/
def fX8_firstOf_9 : Nat → Nat → Int32 → Int32 → Int32 → Int32 → jm_P Int32
  | 0, _, _, _, _, _ => jm_no
  | n + 1, h0, x1, x2, x3, x4 => jm_rd (jm_gR (some h0) 9 15) fun v1 => jm_rd (jm_gi v1 0 x1) fun v2 => (if ((12 * x1) + v2) ≤ x4 then jm_ret x3 else jm_rd (jm_gR (some h0) 9 19) fun v4 => jm_rd (jm_gi v4 0 x4) fun v5 => (if v5 = x2 then (if x3 = (-8) then fX8_firstOf_9 n h0 x1 x2 x4 (x4 + 1) else jm_rd (jm_gR (some h0) 9 16) fun v8 => jm_rd (jm_gi v8 0 x4) fun v9 => jm_rd (jm_gR (some h0) 9 16) fun v10 => jm_rd (jm_gi v10 0 x3) fun v11 => (if v11 ≤ v9 then fX8_firstOf_9 n h0 x1 x2 x3 (x4 + 1) else fX8_firstOf_9 n h0 x1 x2 x4 (x4 + 1))) else fX8_firstOf_9 n h0 x1 x2 x3 (x4 + 1)))
def fX8_firstOf (h0 : Nat) (x1 : Int32) (x2 : Int32) : jm_P Int32 := fX8_firstOf_9 4096 h0 x1 x2 (-8) (12 * x1)
theorem inX8_firstOf_X8 : ∀ w ∈ wsX80, w ∈ wsX8_firstOf := fun _ h => List.mem_cons_of_mem _ (List.mem_append_right _ h)
theorem moX8_firstOf_9 : ∀ (n : Nat) (h0 : Nat) (x1 : Int32) (x2 : Int32) (x3 : Int32) (x4 : Int32), jm_Mo (fX8_firstOf_9 n h0 x1 x2 x3 x4) := by
  intro n
  induction n with
  | zero =>
    intro h0 x1 x2 x3 x4
    rw [fX8_firstOf_9]
    exact jm_Mo_no
  | succ n ih =>
    intro h0 x1 x2 x3 x4
    rw [fX8_firstOf_9]
    exact jm_Mo_rd (fun _ => jm_Mo_rd (fun _ => jm_Mo_if (jm_Mo_ret _) (jm_Mo_rd (fun _ => jm_Mo_rd (fun _ => jm_Mo_if (jm_Mo_if (ih _ _ _ _ _) (jm_Mo_rd (fun _ => jm_Mo_rd (fun _ => jm_Mo_rd (fun _ => jm_Mo_rd (fun _ => jm_Mo_if (ih _ _ _ _ _) (ih _ _ _ _ _))))))) (ih _ _ _ _ _))))))
set_option maxHeartbeats 4000000 in
set_option maxRecDepth 100000 in
theorem kX8_firstOf_9 {rv : Int32} {Sf : jm_S} (C : jm_C G cX8_firstOf 5 RX8 wsX8_firstOf ((some .int)) p s m args meth c) : ∀ (n : Nat) (h0 : Nat) (x1 : Int32) (x2 : Int32) (x3 : Int32) (x4 : Int32) {S : jm_S} {H : Heap} {locs : List Loc} {ls : Array Slot}, fX8_firstOf_9 n h0 x1 x2 x3 x4 S = some (rv, Sf) → jm_J G S H → va_S (jm_A G) s.heap H locs → jm_L ls 5 [(0, .inr (some h0)), (1, .inl x1), (2, .inl x2), (3, .inl x3), (4, .inl x4)] → W p l e ({ frames := 0, cells := 0, slots := 0, locals := 0 } : Room) s m args below meth c H locs 0 0 (MQ below (jm_Q G (some (.int rv)) Sf) args s 0 0 (jm_A G)) (F0 m 9 ls []) := by
  intro n
  induction n with
  | zero =>
    intro h0 x1 x2 x3 x4 S H locs ls hf
    rw [fX8_firstOf_9] at hf
    exact absurd hf (fun h => jm_no_ok h)
  | succ n ih =>
    intro h0 x1 x2 x3 x4 S H locs ls hf hJ hS hl
    rw [fX8_firstOf_9] at hf
    refine lv_iload C.1 C.2.1 dX8_firstOf_9 (hl.at 4 rfl) ?_
    refine lv_bipush (v := 12) C.1 C.2.1 dX8_firstOf_11 (by decide) ?_
    refine lv_iload_n C.1 C.2.1 dX8_firstOf_13 rfl (hl.at 1 rfl) ?_
    refine lv_imul C.1 C.2.1 dX8_firstOf_14 ?_
    refine jw_aload_n C dX8_firstOf_15 rfl (hl.at 0 rfl) ?_
    obtain ⟨v1, h1, hf⟩ := jm_rd_ok hf
    refine jw_gR (Cn := RX8) (T := TX8) (N := 29) C hJ h1 rfl inX8_firstOf_X8 (by decide) (jm_w C 1 rfl) (fun _ h => h) dX8_firstOf_16 ?_
    refine lv_iload_n C.1 C.2.1 dX8_firstOf_19 rfl (hl.at 1 rfl) ?_
    obtain ⟨v2, h2, hf⟩ := jm_rd_ok hf
    refine jw_iaload C hJ h2 dX8_firstOf_20 ?_
    refine lv_iadd C.1 C.2.1 dX8_firstOf_21 ?_
    refine lv_icmp_ge (tgt := 71) C.1 C.2.1 dX8_firstOf_22 (by decide) (fun hq3 => ?_) (fun hq3 => ?_)
    · replace hf := jm_ift hf hq3
      refine lv_iload_n C.1 C.2.1 dX8_firstOf_71 rfl (hl.at 3 rfl) ?_
      obtain ⟨rfl, rfl⟩ := jm_ret_ok hf
      exact jw_ri C hJ hS (Nat.le_refl _) (Nat.le_refl _) dX8_firstOf_72
    · replace hf := jm_iff hf hq3
      refine jw_aload_n C dX8_firstOf_25 rfl (hl.at 0 rfl) ?_
      obtain ⟨v4, h4, hf⟩ := jm_rd_ok hf
      refine jw_gR (Cn := RX8) (T := TX8) (N := 29) C hJ h4 rfl inX8_firstOf_X8 (by decide) (jm_w C 2 rfl) (fun _ h => h) dX8_firstOf_26 ?_
      refine lv_iload C.1 C.2.1 dX8_firstOf_29 (hl.at 4 rfl) ?_
      obtain ⟨v5, h5, hf⟩ := jm_rd_ok hf
      refine jw_iaload C hJ h5 dX8_firstOf_31 ?_
      refine lv_iload_n C.1 C.2.1 dX8_firstOf_32 rfl (hl.at 2 rfl) ?_
      refine lv_icmp_ne (tgt := 63) C.1 C.2.1 dX8_firstOf_33 (by decide) (fun hq6 => ?_) (fun hq6 => ?_)
      · replace hf := jm_iff hf hq6
        refine lv_iload_n C.1 C.2.1 dX8_firstOf_63 rfl (hl.at 3 rfl) ?_
        refine jw_istore_n C dX8_firstOf_64 rfl hl (by decide) rfl (fun ls hl => ?_)
        refine jw_iinc (v := x4 + 1) C 4 dX8_firstOf_65 hl rfl (by rfl) (by decide) rfl (fun ls hl => ?_)
        refine lv_goto (tgt := 9) C.1 C.2.1 dX8_firstOf_68 (by decide) ?_
        exact ih h0 x1 x2 x3 (x4 + 1) hf hJ hS (hl.sub [2, 3, 4, 1, 0] rfl)
      · replace hf := jm_ift hf hq6
        refine lv_iload_n C.1 C.2.1 dX8_firstOf_36 rfl (hl.at 3 rfl) ?_
        refine lv_bipush (v := (-8)) C.1 C.2.1 dX8_firstOf_37 (by decide) ?_
        refine lv_icmp_eq (tgt := 58) C.1 C.2.1 dX8_firstOf_39 (by decide) (fun hq7 => ?_) (fun hq7 => ?_)
        · replace hf := jm_ift hf hq7
          refine lv_iload C.1 C.2.1 dX8_firstOf_58 (hl.at 4 rfl) ?_
          refine lv_goto (tgt := 64) C.1 C.2.1 dX8_firstOf_60 (by decide) ?_
          refine jw_istore_n C dX8_firstOf_64 rfl hl (by decide) rfl (fun ls hl => ?_)
          refine jw_iinc (v := x4 + 1) C 4 dX8_firstOf_65 hl rfl (by rfl) (by decide) rfl (fun ls hl => ?_)
          refine lv_goto (tgt := 9) C.1 C.2.1 dX8_firstOf_68 (by decide) ?_
          exact ih h0 x1 x2 x4 (x4 + 1) hf hJ hS (hl.sub [2, 3, 4, 1, 0] rfl)
        · replace hf := jm_iff hf hq7
          refine jw_aload_n C dX8_firstOf_42 rfl (hl.at 0 rfl) ?_
          obtain ⟨v8, h8, hf⟩ := jm_rd_ok hf
          refine jw_gR (Cn := RX8) (T := TX8) (N := 29) C hJ h8 rfl inX8_firstOf_X8 (by decide) (jm_w C 3 rfl) (fun _ h => h) dX8_firstOf_43 ?_
          refine lv_iload C.1 C.2.1 dX8_firstOf_46 (hl.at 4 rfl) ?_
          obtain ⟨v9, h9, hf⟩ := jm_rd_ok hf
          refine jw_iaload C hJ h9 dX8_firstOf_48 ?_
          refine jw_aload_n C dX8_firstOf_49 rfl (hl.at 0 rfl) ?_
          obtain ⟨v10, h10, hf⟩ := jm_rd_ok hf
          refine jw_gR (Cn := RX8) (T := TX8) (N := 29) C hJ h10 rfl inX8_firstOf_X8 (by decide) (jm_w C 3 rfl) (fun _ h => h) dX8_firstOf_50 ?_
          refine lv_iload_n C.1 C.2.1 dX8_firstOf_53 rfl (hl.at 3 rfl) ?_
          obtain ⟨v11, h11, hf⟩ := jm_rd_ok hf
          refine jw_iaload C hJ h11 dX8_firstOf_54 ?_
          refine lv_icmp_ge (tgt := 63) C.1 C.2.1 dX8_firstOf_55 (by decide) (fun hq12 => ?_) (fun hq12 => ?_)
          · replace hf := jm_ift hf hq12
            refine lv_iload_n C.1 C.2.1 dX8_firstOf_63 rfl (hl.at 3 rfl) ?_
            refine jw_istore_n C dX8_firstOf_64 rfl hl (by decide) rfl (fun ls hl => ?_)
            refine jw_iinc (v := x4 + 1) C 4 dX8_firstOf_65 hl rfl (by rfl) (by decide) rfl (fun ls hl => ?_)
            refine lv_goto (tgt := 9) C.1 C.2.1 dX8_firstOf_68 (by decide) ?_
            exact ih h0 x1 x2 x3 (x4 + 1) hf hJ hS (hl.sub [2, 3, 4, 1, 0] rfl)
          · replace hf := jm_iff hf hq12
            refine lv_iload C.1 C.2.1 dX8_firstOf_58 (hl.at 4 rfl) ?_
            refine lv_goto (tgt := 64) C.1 C.2.1 dX8_firstOf_60 (by decide) ?_
            refine jw_istore_n C dX8_firstOf_64 rfl hl (by decide) rfl (fun ls hl => ?_)
            refine jw_iinc (v := x4 + 1) C 4 dX8_firstOf_65 hl rfl (by rfl) (by decide) rfl (fun ls hl => ?_)
            refine lv_goto (tgt := 9) C.1 C.2.1 dX8_firstOf_68 (by decide) ?_
            exact ih h0 x1 x2 x4 (x4 + 1) hf hJ hS (hl.sub [2, 3, 4, 1, 0] rfl)
theorem moX8_firstOf (h0 : Nat) (x1 : Int32) (x2 : Int32) : jm_Mo (fX8_firstOf h0 x1 x2) := by
  unfold fX8_firstOf
  exact moX8_firstOf_9 _ _ _ _ _ _
set_option maxHeartbeats 4000000 in
set_option maxRecDepth 100000 in
theorem kX8_firstOf {rv : Int32} {Sf : jm_S} (C : jm_C G cX8_firstOf 5 RX8 wsX8_firstOf ((some .int)) p s m args meth c) : ∀ (h0 : Nat) (x1 : Int32) (x2 : Int32) {S : jm_S} {H : Heap} {locs : List Loc} {ls : Array Slot}, fX8_firstOf h0 x1 x2 S = some (rv, Sf) → jm_J G S H → va_S (jm_A G) s.heap H locs → jm_L ls 5 [(0, .inr (some h0)), (1, .inl x1), (2, .inl x2)] → W p l e ({ frames := 0, cells := 0, slots := 0, locals := 0 } : Room) s m args below meth c H locs 0 0 (MQ below (jm_Q G (some (.int rv)) Sf) args s 0 0 (jm_A G)) (F0 m 0 ls []) := by
  intro h0 x1 x2 S H locs ls hf hJ hS hl
  unfold fX8_firstOf at hf
  refine lv_bipush (v := (-8)) C.1 C.2.1 dX8_firstOf_0 (by decide) ?_
  refine jw_istore_n C dX8_firstOf_2 rfl hl (by decide) rfl (fun ls hl => ?_)
  refine lv_bipush (v := 12) C.1 C.2.1 dX8_firstOf_3 (by decide) ?_
  refine lv_iload_n C.1 C.2.1 dX8_firstOf_5 rfl (hl.at 2 rfl) ?_
  refine lv_imul C.1 C.2.1 dX8_firstOf_6 ?_
  refine jw_istore C dX8_firstOf_7 hl (by decide) rfl (fun ls hl => ?_)
  exact kX8_firstOf_9 C 4096 h0 x1 x2 (-8) (12 * x1) hf hJ hS (hl.sub [2, 3, 4, 1, 0] rfl)
set_option maxHeartbeats 4000000 in
set_option maxRecDepth 100000 in
theorem cX8_firstOf_C (l : Launch) (G : jm_G) (h0 : Nat) (x1 : Int32) (x2 : Int32) {S Sf : jm_S} {rv : Int32} (hf : fX8_firstOf h0 x1 x2 S = some (rv, Sf)) : Met l yX8_firstOf wsX8_firstOf ({ frames := 0, cells := 0, slots := 0, locals := 0 } : Room) (jm_Pc G S [.ref h0, .int x1, .int x2]) (jm_Q G (some (.int rv)) Sf) 0 0 (jm_A G) := by
  refine Met.ofW (cc := cX8_firstOf) (maxL := 5) (ret := (some .int)) (by decide) rfl ?_
  intro p e s m args below meth c s₁ B hml hv
  obtain ⟨rfl, hJ, hX⟩ := hv
  have C : jm_C G cX8_firstOf 5 RX8 wsX8_firstOf ((some .int)) p s m _ meth c := ⟨B.exec, B.bytes, hml, findClass_of_methodNamed B.named, atoms_spec (ws := wsX8_firstOf) B.pre, B.returns, B.notSynchronized, hX⟩
  obtain ⟨ls, he, hl⟩ := jm_entry m [.inr (some h0), .inl x1, .inl x2] (n := 5) (Nat.le_of_ble_eq_true rfl)
  have he : entryFrame m ([.ref h0, .int x1, .int x2] : List Value).toArray 5 = F0 m 0 ls [] := he
  rw [he]
  exact kX8_firstOf C h0 x1 x2 hf hJ va_S.rf (hl.sub [0, 1, 2] rfl)
/-! CoordinationServiceModel.fires -/
def fX8_fires_88 (k6 : Nat → Int32 → Int32 → Int32 → Int32 → Int32 → Int32 → jm_P Unit) (h0 : Nat) (x1 : Int32) (x2 : Int32) (x3 : Int32) (x4 : Int32) (x5 : Int32) (x6 : Int32) : jm_P Unit := jm_rd (jm_gR (some h0) 9 26) fun v7 => jm_rd (jm_gR (some h0) 9 26) fun v8 => jm_rd (jm_gi v8 0 x6) fun v9 => jm_wr (jm_si v7 0 x5 v9) <| jm_rd (jm_gR (some h0) 9 27) fun v11 => jm_rd (jm_gR (some h0) 9 27) fun v12 => jm_rd (jm_gi v12 0 x6) fun v13 => jm_wr (jm_si v11 0 x5 v13) <| jm_rd (jm_gR (some h0) 9 28) fun v15 => jm_rd (jm_gR (some h0) 9 28) fun v16 => jm_rd (jm_gi v16 0 x6) fun v17 => jm_wr (jm_si v15 0 x5 v17) <| k6 h0 x1 x2 x3 x4 (x5 + 1) (x6 + 1)
def fX8_fires_6 : Nat → Nat → Int32 → Int32 → Int32 → Int32 → Int32 → Int32 → jm_P Unit
  | 0, _, _, _, _, _, _, _ => jm_no
  | n + 1, h0, x1, x2, x3, x4, x5, x6 => jm_rd (jm_gI (some h0) 9 25) fun v1 => (if v1 ≤ x6 then jm_wr (jm_p (some h0) 9 25 (.inl x5)) <| jm_ret () else jm_rd (jm_gR (some h0) 9 26) fun v4 => jm_rd (jm_gi v4 0 x6) fun v5 => (if v5 = x1 then jm_rd (jm_gR (some h0) 9 28) fun v19 => jm_rd (jm_gi v19 0 x6) fun v20 => (if v20 = x2 then jm_rd (jm_gR (some h0) 9 27) fun v22 => jm_rd (jm_gi v22 0 x6) fun v23 => jm_rd (jm_gR (some h0) 9 24) fun v24 => jm_rd (jm_gR (some h0) 9 23) fun v25 => jm_rd (jm_gi v25 0 v23) fun v26 => jm_wr (jm_si v24 0 ((8 * v23) + (v26 - v26 / 8 * 8)) ((10 * x3) + x4)) <| jm_rd (jm_gR (some h0) 9 23) fun v28 => jm_rd (jm_gi v28 0 v23) fun v29 => jm_wr (jm_si v28 0 v23 (v29 + 1)) <| fX8_fires_6 n h0 x1 x2 x3 x4 x5 (x6 + 1) else fX8_fires_88 (fun h0 x1 x2 x3 x4 x5 x6 => fX8_fires_6 n h0 x1 x2 x3 x4 x5 x6) h0 x1 x2 x3 x4 x5 x6) else fX8_fires_88 (fun h0 x1 x2 x3 x4 x5 x6 => fX8_fires_6 n h0 x1 x2 x3 x4 x5 x6) h0 x1 x2 x3 x4 x5 x6))
def fX8_fires (h0 : Nat) (x1 : Int32) (x2 : Int32) (x3 : Int32) (x4 : Int32) : jm_P Unit := fX8_fires_6 4096 h0 x1 x2 x3 x4 0 0
theorem inX8_fires_X8 : ∀ w ∈ wsX80, w ∈ wsX8_fires := fun _ h => List.mem_cons_of_mem _ (List.mem_append_right _ h)
theorem moX8_fires_88 {k6 : Nat → Int32 → Int32 → Int32 → Int32 → Int32 → Int32 → jm_P Unit} (hm6 : ∀ (h0 : Nat) (x1 : Int32) (x2 : Int32) (x3 : Int32) (x4 : Int32) (x5 : Int32) (x6 : Int32), jm_Mo (k6 h0 x1 x2 x3 x4 x5 x6)) (h0 : Nat) (x1 : Int32) (x2 : Int32) (x3 : Int32) (x4 : Int32) (x5 : Int32) (x6 : Int32) : jm_Mo (fX8_fires_88 k6 h0 x1 x2 x3 x4 x5 x6) := by
  unfold fX8_fires_88
  exact jm_Mo_rd (fun _ => jm_Mo_rd (fun _ => jm_Mo_rd (fun _ => jm_Mo_wr jm_si_st (jm_Mo_rd (fun _ => jm_Mo_rd (fun _ => jm_Mo_rd (fun _ => jm_Mo_wr jm_si_st (jm_Mo_rd (fun _ => jm_Mo_rd (fun _ => jm_Mo_rd (fun _ => jm_Mo_wr jm_si_st (hm6 _ _ _ _ _ _ _))))))))))))
set_option maxHeartbeats 4000000 in
set_option maxRecDepth 100000 in
theorem kX8_fires_88 {rv : Unit} {Sf : jm_S} (C : jm_C G cX8_fires 8 RX8 wsX8_fires (none) p s m args meth c) {k6 : Nat → Int32 → Int32 → Int32 → Int32 → Int32 → Int32 → jm_P Unit} (hk6 : ∀ (h0 : Nat) (x1 : Int32) (x2 : Int32) (x3 : Int32) (x4 : Int32) (x5 : Int32) (x6 : Int32) (S : jm_S) (H : Heap) (locs : List Loc) (ls : Array Slot), k6 h0 x1 x2 x3 x4 x5 x6 S = some (rv, Sf) → jm_J G S H → va_S (jm_A G) s.heap H locs → jm_L ls 8 [(0, .inr (some h0)), (1, .inl x1), (2, .inl x2), (3, .inl x3), (4, .inl x4), (5, .inl x5), (6, .inl x6)] → W p l e ({ frames := 0, cells := 0, slots := 0, locals := 0 } : Room) s m args below meth c H locs 0 0 (MQ below (jm_Q G (none) Sf) args s 0 0 (jm_A G)) (F0 m 6 ls [])) : ∀ (h0 : Nat) (x1 : Int32) (x2 : Int32) (x3 : Int32) (x4 : Int32) (x5 : Int32) (x6 : Int32) {S : jm_S} {H : Heap} {locs : List Loc} {ls : Array Slot}, fX8_fires_88 k6 h0 x1 x2 x3 x4 x5 x6 S = some (rv, Sf) → jm_J G S H → va_S (jm_A G) s.heap H locs → jm_L ls 8 [(0, .inr (some h0)), (1, .inl x1), (2, .inl x2), (3, .inl x3), (4, .inl x4), (5, .inl x5), (6, .inl x6)] → W p l e ({ frames := 0, cells := 0, slots := 0, locals := 0 } : Room) s m args below meth c H locs 0 0 (MQ below (jm_Q G (none) Sf) args s 0 0 (jm_A G)) (F0 m 88 ls []) := by
  intro h0 x1 x2 x3 x4 x5 x6 S H locs ls hf hJ hS hl
  unfold fX8_fires_88 at hf
  refine jw_aload_n C dX8_fires_88 rfl (hl.at 0 rfl) ?_
  obtain ⟨v7, h7, hf⟩ := jm_rd_ok hf
  refine jw_gR (Cn := RX8) (T := TX8) (N := 29) C hJ h7 rfl inX8_fires_X8 (by decide) (jm_w C 2 rfl) (fun _ h => h) dX8_fires_89 ?_
  refine lv_iload C.1 C.2.1 dX8_fires_92 (hl.at 5 rfl) ?_
  refine jw_aload_n C dX8_fires_94 rfl (hl.at 0 rfl) ?_
  obtain ⟨v8, h8, hf⟩ := jm_rd_ok hf
  refine jw_gR (Cn := RX8) (T := TX8) (N := 29) C hJ h8 rfl inX8_fires_X8 (by decide) (jm_w C 2 rfl) (fun _ h => h) dX8_fires_95 ?_
  refine lv_iload C.1 C.2.1 dX8_fires_98 (hl.at 6 rfl) ?_
  obtain ⟨v9, h9, hf⟩ := jm_rd_ok hf
  refine jw_iaload C hJ h9 dX8_fires_100 ?_
  obtain ⟨S10, h10, hf⟩ := jm_wr_ok hf
  refine jw_iastore C hJ hS h10 dX8_fires_101 (fun H locs hJ hS => ?_)
  refine jw_aload_n C dX8_fires_102 rfl (hl.at 0 rfl) ?_
  obtain ⟨v11, h11, hf⟩ := jm_rd_ok hf
  refine jw_gR (Cn := RX8) (T := TX8) (N := 29) C hJ h11 rfl inX8_fires_X8 (by decide) (jm_w C 4 rfl) (fun _ h => h) dX8_fires_103 ?_
  refine lv_iload C.1 C.2.1 dX8_fires_106 (hl.at 5 rfl) ?_
  refine jw_aload_n C dX8_fires_108 rfl (hl.at 0 rfl) ?_
  obtain ⟨v12, h12, hf⟩ := jm_rd_ok hf
  refine jw_gR (Cn := RX8) (T := TX8) (N := 29) C hJ h12 rfl inX8_fires_X8 (by decide) (jm_w C 4 rfl) (fun _ h => h) dX8_fires_109 ?_
  refine lv_iload C.1 C.2.1 dX8_fires_112 (hl.at 6 rfl) ?_
  obtain ⟨v13, h13, hf⟩ := jm_rd_ok hf
  refine jw_iaload C hJ h13 dX8_fires_114 ?_
  obtain ⟨S14, h14, hf⟩ := jm_wr_ok hf
  refine jw_iastore C hJ hS h14 dX8_fires_115 (fun H locs hJ hS => ?_)
  refine jw_aload_n C dX8_fires_116 rfl (hl.at 0 rfl) ?_
  obtain ⟨v15, h15, hf⟩ := jm_rd_ok hf
  refine jw_gR (Cn := RX8) (T := TX8) (N := 29) C hJ h15 rfl inX8_fires_X8 (by decide) (jm_w C 3 rfl) (fun _ h => h) dX8_fires_117 ?_
  refine lv_iload C.1 C.2.1 dX8_fires_120 (hl.at 5 rfl) ?_
  refine jw_aload_n C dX8_fires_122 rfl (hl.at 0 rfl) ?_
  obtain ⟨v16, h16, hf⟩ := jm_rd_ok hf
  refine jw_gR (Cn := RX8) (T := TX8) (N := 29) C hJ h16 rfl inX8_fires_X8 (by decide) (jm_w C 3 rfl) (fun _ h => h) dX8_fires_123 ?_
  refine lv_iload C.1 C.2.1 dX8_fires_126 (hl.at 6 rfl) ?_
  obtain ⟨v17, h17, hf⟩ := jm_rd_ok hf
  refine jw_iaload C hJ h17 dX8_fires_128 ?_
  obtain ⟨S18, h18, hf⟩ := jm_wr_ok hf
  refine jw_iastore C hJ hS h18 dX8_fires_129 (fun H locs hJ hS => ?_)
  refine jw_iinc (v := x5 + 1) C 5 dX8_fires_130 hl rfl (by rfl) (by decide) rfl (fun ls hl => ?_)
  refine jw_iinc (v := x6 + 1) C 6 dX8_fires_133 hl rfl (by rfl) (by decide) rfl (fun ls hl => ?_)
  refine lv_goto (tgt := 6) C.1 C.2.1 dX8_fires_136 (by decide) ?_
  exact hk6 h0 x1 x2 x3 x4 (x5 + 1) (x6 + 1) _ _ _ _ hf hJ hS (hl.sub [2, 3, 4, 5, 6, 1, 0] rfl)
theorem moX8_fires_6 : ∀ (n : Nat) (h0 : Nat) (x1 : Int32) (x2 : Int32) (x3 : Int32) (x4 : Int32) (x5 : Int32) (x6 : Int32), jm_Mo (fX8_fires_6 n h0 x1 x2 x3 x4 x5 x6) := by
  intro n
  induction n with
  | zero =>
    intro h0 x1 x2 x3 x4 x5 x6
    rw [fX8_fires_6]
    exact jm_Mo_no
  | succ n ih =>
    intro h0 x1 x2 x3 x4 x5 x6
    rw [fX8_fires_6]
    exact jm_Mo_rd (fun _ => jm_Mo_if (jm_Mo_wr jm_p_st (jm_Mo_ret _)) (jm_Mo_rd (fun _ => jm_Mo_rd (fun _ => jm_Mo_if (jm_Mo_rd (fun _ => jm_Mo_rd (fun _ => jm_Mo_if (jm_Mo_rd (fun _ => jm_Mo_rd (fun _ => jm_Mo_rd (fun _ => jm_Mo_rd (fun _ => jm_Mo_rd (fun _ => jm_Mo_wr jm_si_st (jm_Mo_rd (fun _ => jm_Mo_rd (fun _ => jm_Mo_wr jm_si_st (ih _ _ _ _ _ _ _)))))))))) (moX8_fires_88 (fun _ _ _ _ _ _ _ => ih _ _ _ _ _ _ _) _ _ _ _ _ _ _)))) (moX8_fires_88 (fun _ _ _ _ _ _ _ => ih _ _ _ _ _ _ _) _ _ _ _ _ _ _)))))
set_option maxHeartbeats 4000000 in
set_option maxRecDepth 100000 in
theorem kX8_fires_6 {rv : Unit} {Sf : jm_S} (C : jm_C G cX8_fires 8 RX8 wsX8_fires (none) p s m args meth c) : ∀ (n : Nat) (h0 : Nat) (x1 : Int32) (x2 : Int32) (x3 : Int32) (x4 : Int32) (x5 : Int32) (x6 : Int32) {S : jm_S} {H : Heap} {locs : List Loc} {ls : Array Slot}, fX8_fires_6 n h0 x1 x2 x3 x4 x5 x6 S = some (rv, Sf) → jm_J G S H → va_S (jm_A G) s.heap H locs → jm_L ls 8 [(0, .inr (some h0)), (1, .inl x1), (2, .inl x2), (3, .inl x3), (4, .inl x4), (5, .inl x5), (6, .inl x6)] → W p l e ({ frames := 0, cells := 0, slots := 0, locals := 0 } : Room) s m args below meth c H locs 0 0 (MQ below (jm_Q G (none) Sf) args s 0 0 (jm_A G)) (F0 m 6 ls []) := by
  intro n
  induction n with
  | zero =>
    intro h0 x1 x2 x3 x4 x5 x6 S H locs ls hf
    rw [fX8_fires_6] at hf
    exact absurd hf (fun h => jm_no_ok h)
  | succ n ih =>
    intro h0 x1 x2 x3 x4 x5 x6 S H locs ls hf hJ hS hl
    rw [fX8_fires_6] at hf
    refine lv_iload C.1 C.2.1 dX8_fires_6 (hl.at 6 rfl) ?_
    refine jw_aload_n C dX8_fires_8 rfl (hl.at 0 rfl) ?_
    obtain ⟨v1, h1, hf⟩ := jm_rd_ok hf
    refine jw_gI (Cn := RX8) (T := TX8) (N := 29) C hJ h1 rfl inX8_fires_X8 (by decide) (jm_w C 1 rfl) (fun _ h => h) dX8_fires_9 ?_
    refine lv_icmp_ge (tgt := 139) C.1 C.2.1 dX8_fires_12 (by decide) (fun hq2 => ?_) (fun hq2 => ?_)
    · replace hf := jm_ift hf hq2
      refine jw_aload_n C dX8_fires_139 rfl (hl.at 0 rfl) ?_
      refine lv_iload C.1 C.2.1 dX8_fires_140 (hl.at 5 rfl) ?_
      obtain ⟨S3, h3, hf⟩ := jm_wr_ok hf
      refine jw_p (x := .inl x5) (ty := .int) (Cn := RX8) (T := TX8) (N := 29) C hJ hS h3 rfl inX8_fires_X8 tyX8 tyX8_ok nmX8 (by decide) (jm_w C 1 rfl) (fun _ h => h) rfl (by decide +kernel) rfl rfl dX8_fires_142 (fun H locs hJ hS => ?_)
      obtain ⟨rfl, rfl⟩ := jm_ret_ok hf
      exact jw_rv C hJ hS (Nat.le_refl _) (Nat.le_refl _) dX8_fires_145
    · replace hf := jm_iff hf hq2
      refine jw_aload_n C dX8_fires_15 rfl (hl.at 0 rfl) ?_
      obtain ⟨v4, h4, hf⟩ := jm_rd_ok hf
      refine jw_gR (Cn := RX8) (T := TX8) (N := 29) C hJ h4 rfl inX8_fires_X8 (by decide) (jm_w C 2 rfl) (fun _ h => h) dX8_fires_16 ?_
      refine lv_iload C.1 C.2.1 dX8_fires_19 (hl.at 6 rfl) ?_
      obtain ⟨v5, h5, hf⟩ := jm_rd_ok hf
      refine jw_iaload C hJ h5 dX8_fires_21 ?_
      refine lv_iload_n C.1 C.2.1 dX8_fires_22 rfl (hl.at 1 rfl) ?_
      refine lv_icmp_ne (tgt := 88) C.1 C.2.1 dX8_fires_23 (by decide) (fun hq6 => ?_) (fun hq6 => ?_)
      · replace hf := jm_iff hf hq6
        exact kX8_fires_88 C (fun h0 x1 x2 x3 x4 x5 x6 S H locs ls hf hJ hS hl => ih h0 x1 x2 x3 x4 x5 x6 hf hJ hS hl) h0 x1 x2 x3 x4 x5 x6 hf hJ hS (hl.sub [0, 1, 2, 3, 4, 5, 6] rfl)
      · replace hf := jm_ift hf hq6
        refine jw_aload_n C dX8_fires_26 rfl (hl.at 0 rfl) ?_
        obtain ⟨v19, h19, hf⟩ := jm_rd_ok hf
        refine jw_gR (Cn := RX8) (T := TX8) (N := 29) C hJ h19 rfl inX8_fires_X8 (by decide) (jm_w C 3 rfl) (fun _ h => h) dX8_fires_27 ?_
        refine lv_iload C.1 C.2.1 dX8_fires_30 (hl.at 6 rfl) ?_
        obtain ⟨v20, h20, hf⟩ := jm_rd_ok hf
        refine jw_iaload C hJ h20 dX8_fires_32 ?_
        refine lv_iload_n C.1 C.2.1 dX8_fires_33 rfl (hl.at 2 rfl) ?_
        refine lv_icmp_ne (tgt := 88) C.1 C.2.1 dX8_fires_34 (by decide) (fun hq21 => ?_) (fun hq21 => ?_)
        · replace hf := jm_iff hf hq21
          exact kX8_fires_88 C (fun h0 x1 x2 x3 x4 x5 x6 S H locs ls hf hJ hS hl => ih h0 x1 x2 x3 x4 x5 x6 hf hJ hS hl) h0 x1 x2 x3 x4 x5 x6 hf hJ hS (hl.sub [0, 1, 2, 3, 4, 5, 6] rfl)
        · replace hf := jm_ift hf hq21
          refine jw_aload_n C dX8_fires_37 rfl (hl.at 0 rfl) ?_
          obtain ⟨v22, h22, hf⟩ := jm_rd_ok hf
          refine jw_gR (Cn := RX8) (T := TX8) (N := 29) C hJ h22 rfl inX8_fires_X8 (by decide) (jm_w C 4 rfl) (fun _ h => h) dX8_fires_38 ?_
          refine lv_iload C.1 C.2.1 dX8_fires_41 (hl.at 6 rfl) ?_
          obtain ⟨v23, h23, hf⟩ := jm_rd_ok hf
          refine jw_iaload C hJ h23 dX8_fires_43 ?_
          refine jw_istore C dX8_fires_44 hl (by decide) rfl (fun ls hl => ?_)
          refine jw_aload_n C dX8_fires_46 rfl (hl.at 1 rfl) ?_
          obtain ⟨v24, h24, hf⟩ := jm_rd_ok hf
          refine jw_gR (Cn := RX8) (T := TX8) (N := 29) C hJ h24 rfl inX8_fires_X8 (by decide) (jm_w C 5 rfl) (fun _ h => h) dX8_fires_47 ?_
          refine lv_bipush (v := 8) C.1 C.2.1 dX8_fires_50 (by decide) ?_
          refine lv_iload C.1 C.2.1 dX8_fires_52 (hl.at 0 rfl) ?_
          refine lv_imul C.1 C.2.1 dX8_fires_54 ?_
          refine jw_aload_n C dX8_fires_55 rfl (hl.at 1 rfl) ?_
          obtain ⟨v25, h25, hf⟩ := jm_rd_ok hf
          refine jw_gR (Cn := RX8) (T := TX8) (N := 29) C hJ h25 rfl inX8_fires_X8 (by decide) (jm_w C 6 rfl) (fun _ h => h) dX8_fires_56 ?_
          refine lv_iload C.1 C.2.1 dX8_fires_59 (hl.at 0 rfl) ?_
          obtain ⟨v26, h26, hf⟩ := jm_rd_ok hf
          refine jw_iaload C hJ h26 dX8_fires_61 ?_
          refine lv_bipush (v := 8) C.1 C.2.1 dX8_fires_62 (by decide) ?_
          refine lv_irem C.1 C.2.1 dX8_fires_64 (by decide) ?_
          refine lv_iadd C.1 C.2.1 dX8_fires_65 ?_
          refine lv_bipush (v := 10) C.1 C.2.1 dX8_fires_66 (by decide) ?_
          refine lv_iload_n C.1 C.2.1 dX8_fires_68 rfl (hl.at 4 rfl) ?_
          refine lv_imul C.1 C.2.1 dX8_fires_69 ?_
          refine lv_iload C.1 C.2.1 dX8_fires_70 (hl.at 5 rfl) ?_
          refine lv_iadd C.1 C.2.1 dX8_fires_72 ?_
          obtain ⟨S27, h27, hf⟩ := jm_wr_ok hf
          refine jw_iastore C hJ hS h27 dX8_fires_73 (fun H locs hJ hS => ?_)
          refine jw_aload_n C dX8_fires_74 rfl (hl.at 1 rfl) ?_
          obtain ⟨v28, h28, hf⟩ := jm_rd_ok hf
          refine jw_gR (Cn := RX8) (T := TX8) (N := 29) C hJ h28 rfl inX8_fires_X8 (by decide) (jm_w C 6 rfl) (fun _ h => h) dX8_fires_75 ?_
          refine lv_iload C.1 C.2.1 dX8_fires_78 (hl.at 0 rfl) ?_
          refine lv_dup2_11 C.1 C.2.1 dX8_fires_80 rfl (jm_catr _) ?_
          obtain ⟨v29, h29, hf⟩ := jm_rd_ok hf
          refine jw_iaload C hJ h29 dX8_fires_81 ?_
          refine lv_iconst (v := 1) C.1 C.2.1 dX8_fires_82 (by decide) ?_
          refine lv_iadd C.1 C.2.1 dX8_fires_83 ?_
          obtain ⟨S30, h30, hf⟩ := jm_wr_ok hf
          refine jw_iastore C hJ hS h30 dX8_fires_84 (fun H locs hJ hS => ?_)
          refine lv_goto (tgt := 133) C.1 C.2.1 dX8_fires_85 (by decide) ?_
          refine jw_iinc (v := x6 + 1) C 7 dX8_fires_133 hl rfl (by rfl) (by decide) rfl (fun ls hl => ?_)
          refine lv_goto (tgt := 6) C.1 C.2.1 dX8_fires_136 (by decide) ?_
          exact ih h0 x1 x2 x3 x4 x5 (x6 + 1) hf hJ hS (hl.sub [2, 3, 4, 5, 6, 7, 0] rfl)
theorem moX8_fires (h0 : Nat) (x1 : Int32) (x2 : Int32) (x3 : Int32) (x4 : Int32) : jm_Mo (fX8_fires h0 x1 x2 x3 x4) := by
  unfold fX8_fires
  exact moX8_fires_6 _ _ _ _ _ _ _ _
set_option maxHeartbeats 4000000 in
set_option maxRecDepth 100000 in
theorem kX8_fires {rv : Unit} {Sf : jm_S} (C : jm_C G cX8_fires 8 RX8 wsX8_fires (none) p s m args meth c) : ∀ (h0 : Nat) (x1 : Int32) (x2 : Int32) (x3 : Int32) (x4 : Int32) {S : jm_S} {H : Heap} {locs : List Loc} {ls : Array Slot}, fX8_fires h0 x1 x2 x3 x4 S = some (rv, Sf) → jm_J G S H → va_S (jm_A G) s.heap H locs → jm_L ls 8 [(0, .inr (some h0)), (1, .inl x1), (2, .inl x2), (3, .inl x3), (4, .inl x4)] → W p l e ({ frames := 0, cells := 0, slots := 0, locals := 0 } : Room) s m args below meth c H locs 0 0 (MQ below (jm_Q G (none) Sf) args s 0 0 (jm_A G)) (F0 m 0 ls []) := by
  intro h0 x1 x2 x3 x4 S H locs ls hf hJ hS hl
  unfold fX8_fires at hf
  refine lv_iconst (v := 0) C.1 C.2.1 dX8_fires_0 (by decide) ?_
  refine jw_istore C dX8_fires_1 hl (by decide) rfl (fun ls hl => ?_)
  refine lv_iconst (v := 0) C.1 C.2.1 dX8_fires_3 (by decide) ?_
  refine jw_istore C dX8_fires_4 hl (by decide) rfl (fun ls hl => ?_)
  exact kX8_fires_6 C 4096 h0 x1 x2 x3 x4 0 0 hf hJ hS (hl.sub [2, 3, 4, 5, 6, 1, 0] rfl)
set_option maxHeartbeats 4000000 in
set_option maxRecDepth 100000 in
theorem cX8_fires_C (l : Launch) (G : jm_G) (h0 : Nat) (x1 : Int32) (x2 : Int32) (x3 : Int32) (x4 : Int32) {S Sf : jm_S} {rv : Unit} (hf : fX8_fires h0 x1 x2 x3 x4 S = some (rv, Sf)) : Met l yX8_fires wsX8_fires ({ frames := 0, cells := 0, slots := 0, locals := 0 } : Room) (jm_Pc G S [.ref h0, .int x1, .int x2, .int x3, .int x4]) (jm_Q G (none) Sf) 0 0 (jm_A G) := by
  refine Met.ofW (cc := cX8_fires) (maxL := 8) (ret := none) (by decide) rfl ?_
  intro p e s m args below meth c s₁ B hml hv
  obtain ⟨rfl, hJ, hX⟩ := hv
  have C : jm_C G cX8_fires 8 RX8 wsX8_fires (none) p s m _ meth c := ⟨B.exec, B.bytes, hml, findClass_of_methodNamed B.named, atoms_spec (ws := wsX8_fires) B.pre, B.returns, B.notSynchronized, hX⟩
  obtain ⟨ls, he, hl⟩ := jm_entry m [.inr (some h0), .inl x1, .inl x2, .inl x3, .inl x4] (n := 8) (Nat.le_of_ble_eq_true rfl)
  have he : entryFrame m ([.ref h0, .int x1, .int x2, .int x3, .int x4] : List Value).toArray 8 = F0 m 0 ls [] := he
  rw [he]
  exact kX8_fires C h0 x1 x2 x3 x4 hf hJ va_S.rf (hl.sub [0, 1, 2, 3, 4] rfl)
/-! CoordinationServiceModel.applies -/
def fX8_applies_205 : Nat → Nat → Int32 → Int32 → Int32 → jm_P Unit
  | 0, _, _, _, _ => jm_no
  | n + 1, h0, x1, x2, x6 => (if x6 = (-8) then jm_ret () else jm_rd (jm_gR (some h0) 9 16) fun v45 => jm_rd (jm_gi v45 0 x6) fun v46 => jm_rd (jm_o (some h0) 9) fun a47 => jm_bd (fX8_removes a47 x1 x6) fun _ => jm_rd (jm_gR (some h0) 9 10) fun v48 => jm_rd (jm_gi v48 0 x2) fun v49 => jm_rd (jm_o (some h0) 9) fun a50 => jm_bd (fX8_fires a50 x1 v46 v49 2) fun _ => jm_rd (jm_gR (some h0) 9 14) fun v51 => jm_rd (jm_gi v51 0 x2) fun v52 => jm_rd (jm_o (some h0) 9) fun a53 => jm_bd (fX8_firstOf a53 x1 v52) fun v53 => fX8_applies_205 n h0 x1 x2 v53)
def fX8_applies (h0 : Nat) (x1 : Int32) (x2 : Int32) : jm_P Unit := jm_rd (jm_gR (some h0) 9 12) fun v1 => jm_rd (jm_gi v1 0 x2) fun v2 => jm_rd (jm_o (some h0) 9) fun a3 => jm_bd (fX8_find a3 x1 v2) fun v3 => jm_rd (jm_gR (some h0) 9 11) fun v4 => jm_rd (jm_gi v4 0 x2) fun v5 => (if v5 = 0 then jm_rd (jm_gR (some h0) 9 15) fun v7 => jm_rd (jm_gi v7 0 x1) fun v8 => jm_rd (jm_gR (some h0) 9 16) fun v9 => jm_wr (jm_si v9 0 ((12 * x1) + v8) v2) <| jm_rd (jm_gR (some h0) 9 17) fun v11 => jm_rd (jm_gR (some h0) 9 13) fun v12 => jm_rd (jm_gi v12 0 x2) fun v13 => jm_wr (jm_si v11 0 ((12 * x1) + v8) v13) <| jm_rd (jm_gR (some h0) 9 18) fun v15 => jm_wr (jm_si v15 0 ((12 * x1) + v8) 0) <| jm_rd (jm_gR (some h0) 9 19) fun v17 => jm_rd (jm_gR (some h0) 9 14) fun v18 => jm_rd (jm_gi v18 0 x2) fun v19 => jm_wr (jm_si v17 0 ((12 * x1) + v8) v19) <| jm_rd (jm_gR (some h0) 9 15) fun v21 => jm_rd (jm_gi v21 0 x1) fun v22 => jm_wr (jm_si v21 0 x1 (v22 + 1)) <| jm_rd (jm_gR (some h0) 9 10) fun v24 => jm_rd (jm_gi v24 0 x2) fun v25 => jm_rd (jm_o (some h0) 9) fun a26 => jm_bd (fX8_fires a26 x1 v2 v25 0) fun _ => jm_ret () else (if v5 = 1 then jm_rd (jm_gR (some h0) 9 17) fun v27 => jm_rd (jm_gR (some h0) 9 13) fun v28 => jm_rd (jm_gi v28 0 x2) fun v29 => jm_wr (jm_si v27 0 v3 v29) <| jm_rd (jm_gR (some h0) 9 18) fun v31 => jm_rd (jm_gi v31 0 v3) fun v32 => jm_wr (jm_si v31 0 v3 (v32 + 1)) <| jm_rd (jm_gR (some h0) 9 10) fun v34 => jm_rd (jm_gi v34 0 x2) fun v35 => jm_rd (jm_o (some h0) 9) fun a36 => jm_bd (fX8_fires a36 x1 v2 v35 1) fun _ => jm_ret () else (if v5 = 2 then jm_rd (jm_o (some h0) 9) fun a37 => jm_bd (fX8_removes a37 x1 v3) fun _ => jm_rd (jm_gR (some h0) 9 10) fun v38 => jm_rd (jm_gi v38 0 x2) fun v39 => jm_rd (jm_o (some h0) 9) fun a40 => jm_bd (fX8_fires a40 x1 v2 v39 2) fun _ => jm_ret () else jm_rd (jm_gR (some h0) 9 14) fun v41 => jm_rd (jm_gi v41 0 x2) fun v42 => jm_rd (jm_o (some h0) 9) fun a43 => jm_bd (fX8_firstOf a43 x1 v42) fun v43 => fX8_applies_205 4096 h0 x1 x2 v43)))
theorem inX8_applies_X8 : ∀ w ∈ wsX80, w ∈ wsX8_applies := fun _ h => List.mem_cons_of_mem _ (List.mem_append_right _ h)
theorem moX8_applies_205 : ∀ (n : Nat) (h0 : Nat) (x1 : Int32) (x2 : Int32) (x6 : Int32), jm_Mo (fX8_applies_205 n h0 x1 x2 x6) := by
  intro n
  induction n with
  | zero =>
    intro h0 x1 x2 x6
    rw [fX8_applies_205]
    exact jm_Mo_no
  | succ n ih =>
    intro h0 x1 x2 x6
    rw [fX8_applies_205]
    exact jm_Mo_if (jm_Mo_ret _) (jm_Mo_rd (fun _ => jm_Mo_rd (fun _ => jm_Mo_rd (fun _ => jm_Mo_bd (moX8_removes _ _ _) (fun _ => jm_Mo_rd (fun _ => jm_Mo_rd (fun _ => jm_Mo_rd (fun _ => jm_Mo_bd (moX8_fires _ _ _ _ _) (fun _ => jm_Mo_rd (fun _ => jm_Mo_rd (fun _ => jm_Mo_rd (fun _ => jm_Mo_bd (moX8_firstOf _ _ _) (fun _ => ih _ _ _ _)))))))))))))
set_option maxHeartbeats 4000000 in
set_option maxRecDepth 100000 in
theorem kX8_applies_205 {rv : Unit} {Sf : jm_S} (C : jm_C G cX8_applies 8 RX8 wsX8_applies (none) p s m args meth c) : ∀ (n : Nat) (h0 : Nat) (x1 : Int32) (x2 : Int32) (x6 : Int32) {S : jm_S} {H : Heap} {locs : List Loc} {ls : Array Slot}, fX8_applies_205 n h0 x1 x2 x6 S = some (rv, Sf) → jm_J G S H → va_S (jm_A G) s.heap H locs → jm_L ls 8 [(0, .inr (some h0)), (1, .inl x1), (2, .inl x2), (6, .inl x6)] → W p l e ({ frames := 1, cells := 0, slots := 0, locals := 27 } : Room) s m args below meth c H locs 0 0 (MQ below (jm_Q G (none) Sf) args s 0 0 (jm_A G)) (F0 m 205 ls []) := by
  intro n
  induction n with
  | zero =>
    intro h0 x1 x2 x6 S H locs ls hf
    rw [fX8_applies_205] at hf
    exact absurd hf (fun h => jm_no_ok h)
  | succ n ih =>
    intro h0 x1 x2 x6 S H locs ls hf hJ hS hl
    rw [fX8_applies_205] at hf
    refine lv_iload C.1 C.2.1 dX8_applies_205 (hl.at 3 rfl) ?_
    refine lv_bipush (v := (-8)) C.1 C.2.1 dX8_applies_207 (by decide) ?_
    refine lv_icmp_eq (tgt := 258) C.1 C.2.1 dX8_applies_209 (by decide) (fun hq44 => ?_) (fun hq44 => ?_)
    · replace hf := jm_ift hf hq44
      obtain ⟨rfl, rfl⟩ := jm_ret_ok hf
      exact jw_rv C hJ hS (Nat.le_refl _) (Nat.le_refl _) dX8_applies_258
    · replace hf := jm_iff hf hq44
      refine jw_aload_n C dX8_applies_212 rfl (hl.at 0 rfl) ?_
      obtain ⟨v45, h45, hf⟩ := jm_rd_ok hf
      refine jw_gR (Cn := RX8) (T := TX8) (N := 29) C hJ h45 rfl inX8_applies_X8 (by decide) (jm_w C 4 rfl) (fun _ h => h) dX8_applies_213 ?_
      refine lv_iload C.1 C.2.1 dX8_applies_216 (hl.at 3 rfl) ?_
      obtain ⟨v46, h46, hf⟩ := jm_rd_ok hf
      refine jw_iaload C hJ h46 dX8_applies_218 ?_
      refine jw_istore C dX8_applies_219 hl (by decide) rfl (fun ls hl => ?_)
      refine jw_aload_n C dX8_applies_221 rfl (hl.at 1 rfl) ?_
      refine lv_iload_n C.1 C.2.1 dX8_applies_222 rfl (hl.at 2 rfl) ?_
      refine lv_iload C.1 C.2.1 dX8_applies_223 (hl.at 4 rfl) ?_
      obtain ⟨a47, o47, hf⟩ := jm_rd_ok hf
      obtain ⟨v47, S47, h47, hf⟩ := jm_bd_ok hf
      refine jw_cV (q := (RX8, TX8, 29)) C hJ hS o47 rfl (cX8_removes_C l G a47 x1 x6 h47) (cwV 2 C.2.2.2.2.1 gX8_applies_X8_removes rfl rfl rfl (by decide +kernel) ⟨Nat.le_of_ble_eq_true rfl, Nat.le_of_ble_eq_true rfl⟩) rfl hl.1 rfl (Nat.le_of_ble_eq_true rfl) dX8_applies_225 ⟨Nat.le_refl _, Nat.le_refl _⟩ (fun H locs hJ hS => ?_)
      refine jw_aload_n C dX8_applies_228 rfl (hl.at 1 rfl) ?_
      refine lv_iload_n C.1 C.2.1 dX8_applies_229 rfl (hl.at 2 rfl) ?_
      refine lv_iload C.1 C.2.1 dX8_applies_230 (hl.at 0 rfl) ?_
      refine jw_aload_n C dX8_applies_232 rfl (hl.at 1 rfl) ?_
      obtain ⟨v48, h48, hf⟩ := jm_rd_ok hf
      refine jw_gR (Cn := RX8) (T := TX8) (N := 29) C hJ h48 rfl inX8_applies_X8 (by decide) (jm_w C 10 rfl) (fun _ h => h) dX8_applies_233 ?_
      refine lv_iload_n C.1 C.2.1 dX8_applies_236 rfl (hl.at 3 rfl) ?_
      obtain ⟨v49, h49, hf⟩ := jm_rd_ok hf
      refine jw_iaload C hJ h49 dX8_applies_237 ?_
      refine lv_iconst (v := 2) C.1 C.2.1 dX8_applies_238 (by decide) ?_
      obtain ⟨a50, o50, hf⟩ := jm_rd_ok hf
      obtain ⟨v50, S50, h50, hf⟩ := jm_bd_ok hf
      refine jw_cV (q := (RX8, TX8, 29)) C hJ hS o50 rfl (cX8_fires_C l G a50 x1 v46 v49 2 h50) (cwV 4 C.2.2.2.2.1 gX8_applies_X8_fires rfl rfl rfl (by decide +kernel) ⟨Nat.le_of_ble_eq_true rfl, Nat.le_of_ble_eq_true rfl⟩) rfl hl.1 rfl (Nat.le_of_ble_eq_true rfl) dX8_applies_239 ⟨Nat.le_refl _, Nat.le_refl _⟩ (fun H locs hJ hS => ?_)
      refine jw_aload_n C dX8_applies_242 rfl (hl.at 1 rfl) ?_
      refine lv_iload_n C.1 C.2.1 dX8_applies_243 rfl (hl.at 2 rfl) ?_
      refine jw_aload_n C dX8_applies_244 rfl (hl.at 1 rfl) ?_
      obtain ⟨v51, h51, hf⟩ := jm_rd_ok hf
      refine jw_gR (Cn := RX8) (T := TX8) (N := 29) C hJ h51 rfl inX8_applies_X8 (by decide) (jm_w C 9 rfl) (fun _ h => h) dX8_applies_245 ?_
      refine lv_iload_n C.1 C.2.1 dX8_applies_248 rfl (hl.at 3 rfl) ?_
      obtain ⟨v52, h52, hf⟩ := jm_rd_ok hf
      refine jw_iaload C hJ h52 dX8_applies_249 ?_
      obtain ⟨a53, o53, hf⟩ := jm_rd_ok hf
      obtain ⟨v53, S53, h53, hf⟩ := jm_bd_ok hf
      refine jw_cV (q := (RX8, TX8, 29)) C hJ hS o53 rfl (cX8_firstOf_C l G a53 x1 v52 h53) (cwV 2 C.2.2.2.2.1 gX8_applies_X8_firstOf rfl rfl rfl (by decide +kernel) ⟨Nat.le_of_ble_eq_true rfl, Nat.le_of_ble_eq_true rfl⟩) rfl hl.1 rfl (Nat.le_of_ble_eq_true rfl) dX8_applies_250 ⟨Nat.le_refl _, Nat.le_refl _⟩ (fun H locs hJ hS => ?_)
      refine jw_istore C dX8_applies_253 hl (by decide) rfl (fun ls hl => ?_)
      refine lv_goto (tgt := 205) C.1 C.2.1 dX8_applies_255 (by decide) ?_
      exact ih h0 x1 x2 v53 hf hJ hS (hl.sub [2, 3, 4, 0] rfl)
theorem moX8_applies (h0 : Nat) (x1 : Int32) (x2 : Int32) : jm_Mo (fX8_applies h0 x1 x2) := by
  unfold fX8_applies
  exact jm_Mo_rd (fun _ => jm_Mo_rd (fun _ => jm_Mo_rd (fun _ => jm_Mo_bd (moX8_find _ _ _) (fun _ => jm_Mo_rd (fun _ => jm_Mo_rd (fun _ => jm_Mo_if (jm_Mo_rd (fun _ => jm_Mo_rd (fun _ => jm_Mo_rd (fun _ => jm_Mo_wr jm_si_st (jm_Mo_rd (fun _ => jm_Mo_rd (fun _ => jm_Mo_rd (fun _ => jm_Mo_wr jm_si_st (jm_Mo_rd (fun _ => jm_Mo_wr jm_si_st (jm_Mo_rd (fun _ => jm_Mo_rd (fun _ => jm_Mo_rd (fun _ => jm_Mo_wr jm_si_st (jm_Mo_rd (fun _ => jm_Mo_rd (fun _ => jm_Mo_wr jm_si_st (jm_Mo_rd (fun _ => jm_Mo_rd (fun _ => jm_Mo_rd (fun _ => jm_Mo_bd (moX8_fires _ _ _ _ _) (fun _ => jm_Mo_ret _)))))))))))))))))))))) (jm_Mo_if (jm_Mo_rd (fun _ => jm_Mo_rd (fun _ => jm_Mo_rd (fun _ => jm_Mo_wr jm_si_st (jm_Mo_rd (fun _ => jm_Mo_rd (fun _ => jm_Mo_wr jm_si_st (jm_Mo_rd (fun _ => jm_Mo_rd (fun _ => jm_Mo_rd (fun _ => jm_Mo_bd (moX8_fires _ _ _ _ _) (fun _ => jm_Mo_ret _)))))))))))) (jm_Mo_if (jm_Mo_rd (fun _ => jm_Mo_bd (moX8_removes _ _ _) (fun _ => jm_Mo_rd (fun _ => jm_Mo_rd (fun _ => jm_Mo_rd (fun _ => jm_Mo_bd (moX8_fires _ _ _ _ _) (fun _ => jm_Mo_ret _))))))) (jm_Mo_rd (fun _ => jm_Mo_rd (fun _ => jm_Mo_rd (fun _ => jm_Mo_bd (moX8_firstOf _ _ _) (fun _ => moX8_applies_205 _ _ _ _ _)))))))))))))
set_option maxHeartbeats 4000000 in
set_option maxRecDepth 100000 in
theorem kX8_applies {rv : Unit} {Sf : jm_S} (C : jm_C G cX8_applies 8 RX8 wsX8_applies (none) p s m args meth c) : ∀ (h0 : Nat) (x1 : Int32) (x2 : Int32) {S : jm_S} {H : Heap} {locs : List Loc} {ls : Array Slot}, fX8_applies h0 x1 x2 S = some (rv, Sf) → jm_J G S H → va_S (jm_A G) s.heap H locs → jm_L ls 8 [(0, .inr (some h0)), (1, .inl x1), (2, .inl x2)] → W p l e ({ frames := 1, cells := 0, slots := 0, locals := 27 } : Room) s m args below meth c H locs 0 0 (MQ below (jm_Q G (none) Sf) args s 0 0 (jm_A G)) (F0 m 0 ls []) := by
  intro h0 x1 x2 S H locs ls hf hJ hS hl
  unfold fX8_applies at hf
  refine jw_aload_n C dX8_applies_0 rfl (hl.at 0 rfl) ?_
  obtain ⟨v1, h1, hf⟩ := jm_rd_ok hf
  refine jw_gR (Cn := RX8) (T := TX8) (N := 29) C hJ h1 rfl inX8_applies_X8 (by decide) (jm_w C 1 rfl) (fun _ h => h) dX8_applies_1 ?_
  refine lv_iload_n C.1 C.2.1 dX8_applies_4 rfl (hl.at 2 rfl) ?_
  obtain ⟨v2, h2, hf⟩ := jm_rd_ok hf
  refine jw_iaload C hJ h2 dX8_applies_5 ?_
  refine jw_istore_n C dX8_applies_6 rfl hl (by decide) rfl (fun ls hl => ?_)
  refine jw_aload_n C dX8_applies_7 rfl (hl.at 1 rfl) ?_
  refine lv_iload_n C.1 C.2.1 dX8_applies_8 rfl (hl.at 2 rfl) ?_
  refine lv_iload_n C.1 C.2.1 dX8_applies_9 rfl (hl.at 0 rfl) ?_
  obtain ⟨a3, o3, hf⟩ := jm_rd_ok hf
  obtain ⟨v3, S3, h3, hf⟩ := jm_bd_ok hf
  refine jw_cV (q := (RX8, TX8, 29)) C hJ hS o3 rfl (cX8_find_C l G a3 x1 v2 h3) (cwV 2 C.2.2.2.2.1 gX8_applies_X8_find rfl rfl rfl (by decide +kernel) ⟨Nat.le_of_ble_eq_true rfl, Nat.le_of_ble_eq_true rfl⟩) rfl hl.1 rfl (Nat.le_of_ble_eq_true rfl) dX8_applies_10 ⟨Nat.le_refl _, Nat.le_refl _⟩ (fun H locs hJ hS => ?_)
  refine jw_istore C dX8_applies_13 hl (by decide) rfl (fun ls hl => ?_)
  refine jw_aload_n C dX8_applies_15 rfl (hl.at 2 rfl) ?_
  obtain ⟨v4, h4, hf⟩ := jm_rd_ok hf
  refine jw_gR (Cn := RX8) (T := TX8) (N := 29) C hJ h4 rfl inX8_applies_X8 (by decide) (jm_w C 2 rfl) (fun _ h => h) dX8_applies_16 ?_
  refine lv_iload_n C.1 C.2.1 dX8_applies_19 rfl (hl.at 4 rfl) ?_
  obtain ⟨v5, h5, hf⟩ := jm_rd_ok hf
  refine jw_iaload C hJ h5 dX8_applies_20 ?_
  by_cases hs6_0 : v5 = 0
  · replace hf := jm_ift hf hs6_0
    refine lv_tableIn (off := 27) (tgt := 48) C.1 C.2.1 dX8_applies_21 (by rw [hs6_0]; decide) (by rw [hs6_0]; decide) (by rw [hs6_0]; rfl) (by decide) ?_
    refine lv_bipush (v := 12) C.1 C.2.1 dX8_applies_48 (by decide) ?_
    refine lv_iload_n C.1 C.2.1 dX8_applies_50 rfl (hl.at 3 rfl) ?_
    refine lv_imul C.1 C.2.1 dX8_applies_51 ?_
    refine jw_aload_n C dX8_applies_52 rfl (hl.at 2 rfl) ?_
    obtain ⟨v7, h7, hf⟩ := jm_rd_ok hf
    refine jw_gR (Cn := RX8) (T := TX8) (N := 29) C hJ h7 rfl inX8_applies_X8 (by decide) (jm_w C 3 rfl) (fun _ h => h) dX8_applies_53 ?_
    refine lv_iload_n C.1 C.2.1 dX8_applies_56 rfl (hl.at 3 rfl) ?_
    obtain ⟨v8, h8, hf⟩ := jm_rd_ok hf
    refine jw_iaload C hJ h8 dX8_applies_57 ?_
    refine lv_iadd C.1 C.2.1 dX8_applies_58 ?_
    refine jw_istore C dX8_applies_59 hl (by decide) rfl (fun ls hl => ?_)
    refine jw_aload_n C dX8_applies_61 rfl (hl.at 3 rfl) ?_
    obtain ⟨v9, h9, hf⟩ := jm_rd_ok hf
    refine jw_gR (Cn := RX8) (T := TX8) (N := 29) C hJ h9 rfl inX8_applies_X8 (by decide) (jm_w C 4 rfl) (fun _ h => h) dX8_applies_62 ?_
    refine lv_iload C.1 C.2.1 dX8_applies_65 (hl.at 0 rfl) ?_
    refine lv_iload_n C.1 C.2.1 dX8_applies_67 rfl (hl.at 2 rfl) ?_
    obtain ⟨S10, h10, hf⟩ := jm_wr_ok hf
    refine jw_iastore C hJ hS h10 dX8_applies_68 (fun H locs hJ hS => ?_)
    refine jw_aload_n C dX8_applies_69 rfl (hl.at 3 rfl) ?_
    obtain ⟨v11, h11, hf⟩ := jm_rd_ok hf
    refine jw_gR (Cn := RX8) (T := TX8) (N := 29) C hJ h11 rfl inX8_applies_X8 (by decide) (jm_w C 5 rfl) (fun _ h => h) dX8_applies_70 ?_
    refine lv_iload C.1 C.2.1 dX8_applies_73 (hl.at 0 rfl) ?_
    refine jw_aload_n C dX8_applies_75 rfl (hl.at 3 rfl) ?_
    obtain ⟨v12, h12, hf⟩ := jm_rd_ok hf
    refine jw_gR (Cn := RX8) (T := TX8) (N := 29) C hJ h12 rfl inX8_applies_X8 (by decide) (jm_w C 6 rfl) (fun _ h => h) dX8_applies_76 ?_
    refine lv_iload_n C.1 C.2.1 dX8_applies_79 rfl (hl.at 5 rfl) ?_
    obtain ⟨v13, h13, hf⟩ := jm_rd_ok hf
    refine jw_iaload C hJ h13 dX8_applies_80 ?_
    obtain ⟨S14, h14, hf⟩ := jm_wr_ok hf
    refine jw_iastore C hJ hS h14 dX8_applies_81 (fun H locs hJ hS => ?_)
    refine jw_aload_n C dX8_applies_82 rfl (hl.at 3 rfl) ?_
    obtain ⟨v15, h15, hf⟩ := jm_rd_ok hf
    refine jw_gR (Cn := RX8) (T := TX8) (N := 29) C hJ h15 rfl inX8_applies_X8 (by decide) (jm_w C 7 rfl) (fun _ h => h) dX8_applies_83 ?_
    refine lv_iload C.1 C.2.1 dX8_applies_86 (hl.at 0 rfl) ?_
    refine lv_iconst (v := 0) C.1 C.2.1 dX8_applies_88 (by decide) ?_
    obtain ⟨S16, h16, hf⟩ := jm_wr_ok hf
    refine jw_iastore C hJ hS h16 dX8_applies_89 (fun H locs hJ hS => ?_)
    refine jw_aload_n C dX8_applies_90 rfl (hl.at 3 rfl) ?_
    obtain ⟨v17, h17, hf⟩ := jm_rd_ok hf
    refine jw_gR (Cn := RX8) (T := TX8) (N := 29) C hJ h17 rfl inX8_applies_X8 (by decide) (jm_w C 8 rfl) (fun _ h => h) dX8_applies_91 ?_
    refine lv_iload C.1 C.2.1 dX8_applies_94 (hl.at 0 rfl) ?_
    refine jw_aload_n C dX8_applies_96 rfl (hl.at 3 rfl) ?_
    obtain ⟨v18, h18, hf⟩ := jm_rd_ok hf
    refine jw_gR (Cn := RX8) (T := TX8) (N := 29) C hJ h18 rfl inX8_applies_X8 (by decide) (jm_w C 9 rfl) (fun _ h => h) dX8_applies_97 ?_
    refine lv_iload_n C.1 C.2.1 dX8_applies_100 rfl (hl.at 5 rfl) ?_
    obtain ⟨v19, h19, hf⟩ := jm_rd_ok hf
    refine jw_iaload C hJ h19 dX8_applies_101 ?_
    obtain ⟨S20, h20, hf⟩ := jm_wr_ok hf
    refine jw_iastore C hJ hS h20 dX8_applies_102 (fun H locs hJ hS => ?_)
    refine jw_aload_n C dX8_applies_103 rfl (hl.at 3 rfl) ?_
    obtain ⟨v21, h21, hf⟩ := jm_rd_ok hf
    refine jw_gR (Cn := RX8) (T := TX8) (N := 29) C hJ h21 rfl inX8_applies_X8 (by decide) (jm_w C 3 rfl) (fun _ h => h) dX8_applies_104 ?_
    refine lv_iload_n C.1 C.2.1 dX8_applies_107 rfl (hl.at 4 rfl) ?_
    refine lv_dup2_11 C.1 C.2.1 dX8_applies_108 rfl (jm_catr _) ?_
    obtain ⟨v22, h22, hf⟩ := jm_rd_ok hf
    refine jw_iaload C hJ h22 dX8_applies_109 ?_
    refine lv_iconst (v := 1) C.1 C.2.1 dX8_applies_110 (by decide) ?_
    refine lv_iadd C.1 C.2.1 dX8_applies_111 ?_
    obtain ⟨S23, h23, hf⟩ := jm_wr_ok hf
    refine jw_iastore C hJ hS h23 dX8_applies_112 (fun H locs hJ hS => ?_)
    refine jw_aload_n C dX8_applies_113 rfl (hl.at 3 rfl) ?_
    refine lv_iload_n C.1 C.2.1 dX8_applies_114 rfl (hl.at 4 rfl) ?_
    refine lv_iload_n C.1 C.2.1 dX8_applies_115 rfl (hl.at 2 rfl) ?_
    refine jw_aload_n C dX8_applies_116 rfl (hl.at 3 rfl) ?_
    obtain ⟨v24, h24, hf⟩ := jm_rd_ok hf
    refine jw_gR (Cn := RX8) (T := TX8) (N := 29) C hJ h24 rfl inX8_applies_X8 (by decide) (jm_w C 10 rfl) (fun _ h => h) dX8_applies_117 ?_
    refine lv_iload_n C.1 C.2.1 dX8_applies_120 rfl (hl.at 5 rfl) ?_
    obtain ⟨v25, h25, hf⟩ := jm_rd_ok hf
    refine jw_iaload C hJ h25 dX8_applies_121 ?_
    refine lv_iconst (v := 0) C.1 C.2.1 dX8_applies_122 (by decide) ?_
    obtain ⟨a26, o26, hf⟩ := jm_rd_ok hf
    obtain ⟨v26, S26, h26, hf⟩ := jm_bd_ok hf
    refine jw_cV (q := (RX8, TX8, 29)) C hJ hS o26 rfl (cX8_fires_C l G a26 x1 v2 v25 0 h26) (cwV 4 C.2.2.2.2.1 gX8_applies_X8_fires rfl rfl rfl (by decide +kernel) ⟨Nat.le_of_ble_eq_true rfl, Nat.le_of_ble_eq_true rfl⟩) rfl hl.1 rfl (Nat.le_of_ble_eq_true rfl) dX8_applies_123 ⟨Nat.le_refl _, Nat.le_refl _⟩ (fun H locs hJ hS => ?_)
    refine lv_goto (tgt := 258) C.1 C.2.1 dX8_applies_126 (by decide) ?_
    obtain ⟨rfl, rfl⟩ := jm_ret_ok hf
    exact jw_rv C hJ hS (Nat.le_refl _) (Nat.le_refl _) dX8_applies_258
  replace hf := jm_iff hf hs6_0
  by_cases hs6_1 : v5 = 1
  · replace hf := jm_ift hf hs6_1
    refine lv_tableIn (off := 108) (tgt := 129) C.1 C.2.1 dX8_applies_21 (by rw [hs6_1]; decide) (by rw [hs6_1]; decide) (by rw [hs6_1]; rfl) (by decide) ?_
    refine jw_aload_n C dX8_applies_129 rfl (hl.at 2 rfl) ?_
    obtain ⟨v27, h27, hf⟩ := jm_rd_ok hf
    refine jw_gR (Cn := RX8) (T := TX8) (N := 29) C hJ h27 rfl inX8_applies_X8 (by decide) (jm_w C 5 rfl) (fun _ h => h) dX8_applies_130 ?_
    refine lv_iload C.1 C.2.1 dX8_applies_133 (hl.at 0 rfl) ?_
    refine jw_aload_n C dX8_applies_135 rfl (hl.at 2 rfl) ?_
    obtain ⟨v28, h28, hf⟩ := jm_rd_ok hf
    refine jw_gR (Cn := RX8) (T := TX8) (N := 29) C hJ h28 rfl inX8_applies_X8 (by decide) (jm_w C 6 rfl) (fun _ h => h) dX8_applies_136 ?_
    refine lv_iload_n C.1 C.2.1 dX8_applies_139 rfl (hl.at 4 rfl) ?_
    obtain ⟨v29, h29, hf⟩ := jm_rd_ok hf
    refine jw_iaload C hJ h29 dX8_applies_140 ?_
    obtain ⟨S30, h30, hf⟩ := jm_wr_ok hf
    refine jw_iastore C hJ hS h30 dX8_applies_141 (fun H locs hJ hS => ?_)
    refine jw_aload_n C dX8_applies_142 rfl (hl.at 2 rfl) ?_
    obtain ⟨v31, h31, hf⟩ := jm_rd_ok hf
    refine jw_gR (Cn := RX8) (T := TX8) (N := 29) C hJ h31 rfl inX8_applies_X8 (by decide) (jm_w C 7 rfl) (fun _ h => h) dX8_applies_143 ?_
    refine lv_iload C.1 C.2.1 dX8_applies_146 (hl.at 0 rfl) ?_
    refine lv_dup2_11 C.1 C.2.1 dX8_applies_148 rfl (jm_catr _) ?_
    obtain ⟨v32, h32, hf⟩ := jm_rd_ok hf
    refine jw_iaload C hJ h32 dX8_applies_149 ?_
    refine lv_iconst (v := 1) C.1 C.2.1 dX8_applies_150 (by decide) ?_
    refine lv_iadd C.1 C.2.1 dX8_applies_151 ?_
    obtain ⟨S33, h33, hf⟩ := jm_wr_ok hf
    refine jw_iastore C hJ hS h33 dX8_applies_152 (fun H locs hJ hS => ?_)
    refine jw_aload_n C dX8_applies_153 rfl (hl.at 2 rfl) ?_
    refine lv_iload_n C.1 C.2.1 dX8_applies_154 rfl (hl.at 3 rfl) ?_
    refine lv_iload_n C.1 C.2.1 dX8_applies_155 rfl (hl.at 1 rfl) ?_
    refine jw_aload_n C dX8_applies_156 rfl (hl.at 2 rfl) ?_
    obtain ⟨v34, h34, hf⟩ := jm_rd_ok hf
    refine jw_gR (Cn := RX8) (T := TX8) (N := 29) C hJ h34 rfl inX8_applies_X8 (by decide) (jm_w C 10 rfl) (fun _ h => h) dX8_applies_157 ?_
    refine lv_iload_n C.1 C.2.1 dX8_applies_160 rfl (hl.at 4 rfl) ?_
    obtain ⟨v35, h35, hf⟩ := jm_rd_ok hf
    refine jw_iaload C hJ h35 dX8_applies_161 ?_
    refine lv_iconst (v := 1) C.1 C.2.1 dX8_applies_162 (by decide) ?_
    obtain ⟨a36, o36, hf⟩ := jm_rd_ok hf
    obtain ⟨v36, S36, h36, hf⟩ := jm_bd_ok hf
    refine jw_cV (q := (RX8, TX8, 29)) C hJ hS o36 rfl (cX8_fires_C l G a36 x1 v2 v35 1 h36) (cwV 4 C.2.2.2.2.1 gX8_applies_X8_fires rfl rfl rfl (by decide +kernel) ⟨Nat.le_of_ble_eq_true rfl, Nat.le_of_ble_eq_true rfl⟩) rfl hl.1 rfl (Nat.le_of_ble_eq_true rfl) dX8_applies_163 ⟨Nat.le_refl _, Nat.le_refl _⟩ (fun H locs hJ hS => ?_)
    refine lv_goto (tgt := 258) C.1 C.2.1 dX8_applies_166 (by decide) ?_
    obtain ⟨rfl, rfl⟩ := jm_ret_ok hf
    exact jw_rv C hJ hS (Nat.le_refl _) (Nat.le_refl _) dX8_applies_258
  replace hf := jm_iff hf hs6_1
  by_cases hs6_2 : v5 = 2
  · replace hf := jm_ift hf hs6_2
    refine lv_tableIn (off := 148) (tgt := 169) C.1 C.2.1 dX8_applies_21 (by rw [hs6_2]; decide) (by rw [hs6_2]; decide) (by rw [hs6_2]; rfl) (by decide) ?_
    refine jw_aload_n C dX8_applies_169 rfl (hl.at 2 rfl) ?_
    refine lv_iload_n C.1 C.2.1 dX8_applies_170 rfl (hl.at 3 rfl) ?_
    refine lv_iload C.1 C.2.1 dX8_applies_171 (hl.at 0 rfl) ?_
    obtain ⟨a37, o37, hf⟩ := jm_rd_ok hf
    obtain ⟨v37, S37, h37, hf⟩ := jm_bd_ok hf
    refine jw_cV (q := (RX8, TX8, 29)) C hJ hS o37 rfl (cX8_removes_C l G a37 x1 v3 h37) (cwV 2 C.2.2.2.2.1 gX8_applies_X8_removes rfl rfl rfl (by decide +kernel) ⟨Nat.le_of_ble_eq_true rfl, Nat.le_of_ble_eq_true rfl⟩) rfl hl.1 rfl (Nat.le_of_ble_eq_true rfl) dX8_applies_173 ⟨Nat.le_refl _, Nat.le_refl _⟩ (fun H locs hJ hS => ?_)
    refine jw_aload_n C dX8_applies_176 rfl (hl.at 2 rfl) ?_
    refine lv_iload_n C.1 C.2.1 dX8_applies_177 rfl (hl.at 3 rfl) ?_
    refine lv_iload_n C.1 C.2.1 dX8_applies_178 rfl (hl.at 1 rfl) ?_
    refine jw_aload_n C dX8_applies_179 rfl (hl.at 2 rfl) ?_
    obtain ⟨v38, h38, hf⟩ := jm_rd_ok hf
    refine jw_gR (Cn := RX8) (T := TX8) (N := 29) C hJ h38 rfl inX8_applies_X8 (by decide) (jm_w C 10 rfl) (fun _ h => h) dX8_applies_180 ?_
    refine lv_iload_n C.1 C.2.1 dX8_applies_183 rfl (hl.at 4 rfl) ?_
    obtain ⟨v39, h39, hf⟩ := jm_rd_ok hf
    refine jw_iaload C hJ h39 dX8_applies_184 ?_
    refine lv_iconst (v := 2) C.1 C.2.1 dX8_applies_185 (by decide) ?_
    obtain ⟨a40, o40, hf⟩ := jm_rd_ok hf
    obtain ⟨v40, S40, h40, hf⟩ := jm_bd_ok hf
    refine jw_cV (q := (RX8, TX8, 29)) C hJ hS o40 rfl (cX8_fires_C l G a40 x1 v2 v39 2 h40) (cwV 4 C.2.2.2.2.1 gX8_applies_X8_fires rfl rfl rfl (by decide +kernel) ⟨Nat.le_of_ble_eq_true rfl, Nat.le_of_ble_eq_true rfl⟩) rfl hl.1 rfl (Nat.le_of_ble_eq_true rfl) dX8_applies_186 ⟨Nat.le_refl _, Nat.le_refl _⟩ (fun H locs hJ hS => ?_)
    refine lv_goto (tgt := 258) C.1 C.2.1 dX8_applies_189 (by decide) ?_
    obtain ⟨rfl, rfl⟩ := jm_ret_ok hf
    exact jw_rv C hJ hS (Nat.le_refl _) (Nat.le_refl _) dX8_applies_258
  replace hf := jm_iff hf hs6_2
  refine lv_tableOut (tgt := 192) C.1 C.2.1 dX8_applies_21 (jm_out3 hs6_0 hs6_1 hs6_2) (by decide) ?_
  refine jw_aload_n C dX8_applies_192 rfl (hl.at 2 rfl) ?_
  refine lv_iload_n C.1 C.2.1 dX8_applies_193 rfl (hl.at 3 rfl) ?_
  refine jw_aload_n C dX8_applies_194 rfl (hl.at 2 rfl) ?_
  obtain ⟨v41, h41, hf⟩ := jm_rd_ok hf
  refine jw_gR (Cn := RX8) (T := TX8) (N := 29) C hJ h41 rfl inX8_applies_X8 (by decide) (jm_w C 9 rfl) (fun _ h => h) dX8_applies_195 ?_
  refine lv_iload_n C.1 C.2.1 dX8_applies_198 rfl (hl.at 4 rfl) ?_
  obtain ⟨v42, h42, hf⟩ := jm_rd_ok hf
  refine jw_iaload C hJ h42 dX8_applies_199 ?_
  obtain ⟨a43, o43, hf⟩ := jm_rd_ok hf
  obtain ⟨v43, S43, h43, hf⟩ := jm_bd_ok hf
  refine jw_cV (q := (RX8, TX8, 29)) C hJ hS o43 rfl (cX8_firstOf_C l G a43 x1 v42 h43) (cwV 2 C.2.2.2.2.1 gX8_applies_X8_firstOf rfl rfl rfl (by decide +kernel) ⟨Nat.le_of_ble_eq_true rfl, Nat.le_of_ble_eq_true rfl⟩) rfl hl.1 rfl (Nat.le_of_ble_eq_true rfl) dX8_applies_200 ⟨Nat.le_refl _, Nat.le_refl _⟩ (fun H locs hJ hS => ?_)
  refine jw_istore C dX8_applies_203 hl (by decide) rfl (fun ls hl => ?_)
  exact kX8_applies_205 C 4096 h0 x1 x2 v43 hf hJ hS (hl.sub [3, 4, 5, 0] rfl)
set_option maxHeartbeats 4000000 in
set_option maxRecDepth 100000 in
theorem cX8_applies_C (l : Launch) (G : jm_G) (h0 : Nat) (x1 : Int32) (x2 : Int32) {S Sf : jm_S} {rv : Unit} (hf : fX8_applies h0 x1 x2 S = some (rv, Sf)) : Met l yX8_applies wsX8_applies ({ frames := 1, cells := 0, slots := 0, locals := 27 } : Room) (jm_Pc G S [.ref h0, .int x1, .int x2]) (jm_Q G (none) Sf) 0 0 (jm_A G) := by
  refine Met.ofW (cc := cX8_applies) (maxL := 8) (ret := none) (by decide) rfl ?_
  intro p e s m args below meth c s₁ B hml hv
  obtain ⟨rfl, hJ, hX⟩ := hv
  have C : jm_C G cX8_applies 8 RX8 wsX8_applies (none) p s m _ meth c := ⟨B.exec, B.bytes, hml, findClass_of_methodNamed B.named, atoms_spec (ws := wsX8_applies) B.pre, B.returns, B.notSynchronized, hX⟩
  obtain ⟨ls, he, hl⟩ := jm_entry m [.inr (some h0), .inl x1, .inl x2] (n := 8) (Nat.le_of_ble_eq_true rfl)
  have he : entryFrame m ([.ref h0, .int x1, .int x2] : List Value).toArray 8 = F0 m 0 ls [] := he
  rw [he]
  exact kX8_applies C h0 x1 x2 hf hJ va_S.rf (hl.sub [0, 1, 2] rfl)
/-! CoordinationServiceModel.laysProposed -/
def fX8_laysProposed_9 : Nat → Nat → Int32 → jm_P Unit
  | 0, _, _ => jm_no
  | n + 1, h0, x1 => jm_rd (jm_gR (some h0) 9 9) fun v3 => jm_rd (jm_gI (some h0) 9 5) fun v4 => jm_rd (jm_gi v3 0 v4) fun v5 => (if v5 ≤ x1 then jm_ret () else jm_rd (jm_gI (some h0) 9 5) fun v7 => jm_rd (jm_o (some h0) 9) fun a8 => jm_bd (fX8_applies a8 5 ((40 * v7) + x1)) fun _ => fX8_laysProposed_9 n h0 (x1 + 1))
def fX8_laysProposed (h0 : Nat) : jm_P Unit := jm_rd (jm_gR (some h0) 9 15) fun v1 => jm_wr (jm_si v1 0 5 0) <| fX8_laysProposed_9 4096 h0 0
theorem inX8_laysProposed_X8 : ∀ w ∈ wsX80, w ∈ wsX8_laysProposed := fun _ h => List.mem_cons_of_mem _ (List.mem_append_right _ h)
theorem moX8_laysProposed_9 : ∀ (n : Nat) (h0 : Nat) (x1 : Int32), jm_Mo (fX8_laysProposed_9 n h0 x1) := by
  intro n
  induction n with
  | zero =>
    intro h0 x1
    rw [fX8_laysProposed_9]
    exact jm_Mo_no
  | succ n ih =>
    intro h0 x1
    rw [fX8_laysProposed_9]
    exact jm_Mo_rd (fun _ => jm_Mo_rd (fun _ => jm_Mo_rd (fun _ => jm_Mo_if (jm_Mo_ret _) (jm_Mo_rd (fun _ => jm_Mo_rd (fun _ => jm_Mo_bd (moX8_applies _ _ _) (fun _ => ih _ _)))))))
set_option maxHeartbeats 4000000 in
set_option maxRecDepth 100000 in
theorem kX8_laysProposed_9 {rv : Unit} {Sf : jm_S} (C : jm_C G cX8_laysProposed 2 RX8 wsX8_laysProposed (none) p s m args meth c) : ∀ (n : Nat) (h0 : Nat) (x1 : Int32) {S : jm_S} {H : Heap} {locs : List Loc} {ls : Array Slot}, fX8_laysProposed_9 n h0 x1 S = some (rv, Sf) → jm_J G S H → va_S (jm_A G) s.heap H locs → jm_L ls 2 [(0, .inr (some h0)), (1, .inl x1)] → W p l e ({ frames := 2, cells := 0, slots := 0, locals := 54 } : Room) s m args below meth c H locs 0 0 (MQ below (jm_Q G (none) Sf) args s 0 0 (jm_A G)) (F0 m 9 ls []) := by
  intro n
  induction n with
  | zero =>
    intro h0 x1 S H locs ls hf
    rw [fX8_laysProposed_9] at hf
    exact absurd hf (fun h => jm_no_ok h)
  | succ n ih =>
    intro h0 x1 S H locs ls hf hJ hS hl
    rw [fX8_laysProposed_9] at hf
    refine lv_iload_n C.1 C.2.1 dX8_laysProposed_9 rfl (hl.at 1 rfl) ?_
    refine jw_aload_n C dX8_laysProposed_10 rfl (hl.at 0 rfl) ?_
    obtain ⟨v3, h3, hf⟩ := jm_rd_ok hf
    refine jw_gR (Cn := RX8) (T := TX8) (N := 29) C hJ h3 rfl inX8_laysProposed_X8 (by decide) (jm_w C 2 rfl) (fun _ h => h) dX8_laysProposed_11 ?_
    refine jw_aload_n C dX8_laysProposed_14 rfl (hl.at 0 rfl) ?_
    obtain ⟨v4, h4, hf⟩ := jm_rd_ok hf
    refine jw_gI (Cn := RX8) (T := TX8) (N := 29) C hJ h4 rfl inX8_laysProposed_X8 (by decide) (jm_w C 3 rfl) (fun _ h => h) dX8_laysProposed_15 ?_
    obtain ⟨v5, h5, hf⟩ := jm_rd_ok hf
    refine jw_iaload C hJ h5 dX8_laysProposed_18 ?_
    refine lv_icmp_ge (tgt := 42) C.1 C.2.1 dX8_laysProposed_19 (by decide) (fun hq6 => ?_) (fun hq6 => ?_)
    · replace hf := jm_ift hf hq6
      obtain ⟨rfl, rfl⟩ := jm_ret_ok hf
      exact jw_rv C hJ hS (Nat.le_refl _) (Nat.le_refl _) dX8_laysProposed_42
    · replace hf := jm_iff hf hq6
      refine jw_aload_n C dX8_laysProposed_22 rfl (hl.at 0 rfl) ?_
      refine lv_iconst (v := 5) C.1 C.2.1 dX8_laysProposed_23 (by decide) ?_
      refine lv_bipush (v := 40) C.1 C.2.1 dX8_laysProposed_24 (by decide) ?_
      refine jw_aload_n C dX8_laysProposed_26 rfl (hl.at 0 rfl) ?_
      obtain ⟨v7, h7, hf⟩ := jm_rd_ok hf
      refine jw_gI (Cn := RX8) (T := TX8) (N := 29) C hJ h7 rfl inX8_laysProposed_X8 (by decide) (jm_w C 3 rfl) (fun _ h => h) dX8_laysProposed_27 ?_
      refine lv_imul C.1 C.2.1 dX8_laysProposed_30 ?_
      refine lv_iload_n C.1 C.2.1 dX8_laysProposed_31 rfl (hl.at 1 rfl) ?_
      refine lv_iadd C.1 C.2.1 dX8_laysProposed_32 ?_
      obtain ⟨a8, o8, hf⟩ := jm_rd_ok hf
      obtain ⟨v8, S8, h8, hf⟩ := jm_bd_ok hf
      refine jw_cV (q := (RX8, TX8, 29)) C hJ hS o8 rfl (cX8_applies_C l G a8 5 ((40 * v7) + x1) h8) (cwV 2 C.2.2.2.2.1 gX8_laysProposed_X8_applies rfl rfl rfl (by decide +kernel) ⟨Nat.le_of_ble_eq_true rfl, Nat.le_of_ble_eq_true rfl⟩) rfl hl.1 rfl (Nat.le_of_ble_eq_true rfl) dX8_laysProposed_33 ⟨Nat.le_refl _, Nat.le_refl _⟩ (fun H locs hJ hS => ?_)
      refine jw_iinc (v := x1 + 1) C 1 dX8_laysProposed_36 hl rfl (by rfl) (by decide) rfl (fun ls hl => ?_)
      refine lv_goto (tgt := 9) C.1 C.2.1 dX8_laysProposed_39 (by decide) ?_
      exact ih h0 (x1 + 1) hf hJ hS (hl.sub [1, 0] rfl)
theorem moX8_laysProposed (h0 : Nat) : jm_Mo (fX8_laysProposed h0) := by
  unfold fX8_laysProposed
  exact jm_Mo_rd (fun _ => jm_Mo_wr jm_si_st (moX8_laysProposed_9 _ _ _))
set_option maxHeartbeats 4000000 in
set_option maxRecDepth 100000 in
theorem kX8_laysProposed {rv : Unit} {Sf : jm_S} (C : jm_C G cX8_laysProposed 2 RX8 wsX8_laysProposed (none) p s m args meth c) : ∀ (h0 : Nat) {S : jm_S} {H : Heap} {locs : List Loc} {ls : Array Slot}, fX8_laysProposed h0 S = some (rv, Sf) → jm_J G S H → va_S (jm_A G) s.heap H locs → jm_L ls 2 [(0, .inr (some h0))] → W p l e ({ frames := 2, cells := 0, slots := 0, locals := 54 } : Room) s m args below meth c H locs 0 0 (MQ below (jm_Q G (none) Sf) args s 0 0 (jm_A G)) (F0 m 0 ls []) := by
  intro h0 S H locs ls hf hJ hS hl
  unfold fX8_laysProposed at hf
  refine jw_aload_n C dX8_laysProposed_0 rfl (hl.at 0 rfl) ?_
  obtain ⟨v1, h1, hf⟩ := jm_rd_ok hf
  refine jw_gR (Cn := RX8) (T := TX8) (N := 29) C hJ h1 rfl inX8_laysProposed_X8 (by decide) (jm_w C 1 rfl) (fun _ h => h) dX8_laysProposed_1 ?_
  refine lv_iconst (v := 5) C.1 C.2.1 dX8_laysProposed_4 (by decide) ?_
  refine lv_iconst (v := 0) C.1 C.2.1 dX8_laysProposed_5 (by decide) ?_
  obtain ⟨S2, h2, hf⟩ := jm_wr_ok hf
  refine jw_iastore C hJ hS h2 dX8_laysProposed_6 (fun H locs hJ hS => ?_)
  refine lv_iconst (v := 0) C.1 C.2.1 dX8_laysProposed_7 (by decide) ?_
  refine jw_istore_n C dX8_laysProposed_8 rfl hl (by decide) rfl (fun ls hl => ?_)
  exact kX8_laysProposed_9 C 4096 h0 0 hf hJ hS (hl.sub [1, 0] rfl)
set_option maxHeartbeats 4000000 in
set_option maxRecDepth 100000 in
theorem cX8_laysProposed_C (l : Launch) (G : jm_G) (h0 : Nat) {S Sf : jm_S} {rv : Unit} (hf : fX8_laysProposed h0 S = some (rv, Sf)) : Met l yX8_laysProposed wsX8_laysProposed ({ frames := 2, cells := 0, slots := 0, locals := 54 } : Room) (jm_Pc G S [.ref h0]) (jm_Q G (none) Sf) 0 0 (jm_A G) := by
  refine Met.ofW (cc := cX8_laysProposed) (maxL := 2) (ret := none) (by decide) rfl ?_
  intro p e s m args below meth c s₁ B hml hv
  obtain ⟨rfl, hJ, hX⟩ := hv
  have C : jm_C G cX8_laysProposed 2 RX8 wsX8_laysProposed (none) p s m _ meth c := ⟨B.exec, B.bytes, hml, findClass_of_methodNamed B.named, atoms_spec (ws := wsX8_laysProposed) B.pre, B.returns, B.notSynchronized, hX⟩
  obtain ⟨ls, he, hl⟩ := jm_entry m [.inr (some h0)] (n := 2) (Nat.le_of_ble_eq_true rfl)
  have he : entryFrame m ([.ref h0] : List Value).toArray 2 = F0 m 0 ls [] := he
  rw [he]
  exact kX8_laysProposed C h0 hf hJ va_S.rf (hl.sub [0] rfl)
/-! CoordinationServiceModel.lastOfLog -/
def fX8_lastOfLog (h0 : Nat) (x1 : Int32) : jm_P Int32 := jm_rd (jm_gR (some h0) 9 9) fun v1 => jm_rd (jm_gi v1 0 x1) fun v2 => (if v2 = 0 then jm_ret 0 else jm_rd (jm_gR (some h0) 9 10) fun v4 => jm_rd (jm_gR (some h0) 9 9) fun v5 => jm_rd (jm_gi v5 0 x1) fun v6 => jm_rd (jm_gi v4 0 (((40 * x1) + v6) - 1)) fun v7 => jm_ret v7)
theorem inX8_lastOfLog_X8 : ∀ w ∈ wsX80, w ∈ wsX8_lastOfLog := fun _ h => List.mem_cons_of_mem _ (List.mem_append_right _ h)
theorem moX8_lastOfLog (h0 : Nat) (x1 : Int32) : jm_Mo (fX8_lastOfLog h0 x1) := by
  unfold fX8_lastOfLog
  exact jm_Mo_rd (fun _ => jm_Mo_rd (fun _ => jm_Mo_if (jm_Mo_ret _) (jm_Mo_rd (fun _ => jm_Mo_rd (fun _ => jm_Mo_rd (fun _ => jm_Mo_rd (fun _ => jm_Mo_ret _)))))))
set_option maxHeartbeats 4000000 in
set_option maxRecDepth 100000 in
theorem kX8_lastOfLog {rv : Int32} {Sf : jm_S} (C : jm_C G cX8_lastOfLog 2 RX8 wsX8_lastOfLog ((some .int)) p s m args meth c) : ∀ (h0 : Nat) (x1 : Int32) {S : jm_S} {H : Heap} {locs : List Loc} {ls : Array Slot}, fX8_lastOfLog h0 x1 S = some (rv, Sf) → jm_J G S H → va_S (jm_A G) s.heap H locs → jm_L ls 2 [(0, .inr (some h0)), (1, .inl x1)] → W p l e ({ frames := 0, cells := 0, slots := 0, locals := 0 } : Room) s m args below meth c H locs 0 0 (MQ below (jm_Q G (some (.int rv)) Sf) args s 0 0 (jm_A G)) (F0 m 0 ls []) := by
  intro h0 x1 S H locs ls hf hJ hS hl
  unfold fX8_lastOfLog at hf
  refine jw_aload_n C dX8_lastOfLog_0 rfl (hl.at 0 rfl) ?_
  obtain ⟨v1, h1, hf⟩ := jm_rd_ok hf
  refine jw_gR (Cn := RX8) (T := TX8) (N := 29) C hJ h1 rfl inX8_lastOfLog_X8 (by decide) (jm_w C 1 rfl) (fun _ h => h) dX8_lastOfLog_1 ?_
  refine lv_iload_n C.1 C.2.1 dX8_lastOfLog_4 rfl (hl.at 1 rfl) ?_
  obtain ⟨v2, h2, hf⟩ := jm_rd_ok hf
  refine jw_iaload C hJ h2 dX8_lastOfLog_5 ?_
  refine lv_if_ne (tgt := 13) C.1 C.2.1 dX8_lastOfLog_6 (by decide) (fun hq3 => ?_) (fun hq3 => ?_)
  · replace hf := jm_iff hf hq3
    refine jw_aload_n C dX8_lastOfLog_13 rfl (hl.at 0 rfl) ?_
    obtain ⟨v4, h4, hf⟩ := jm_rd_ok hf
    refine jw_gR (Cn := RX8) (T := TX8) (N := 29) C hJ h4 rfl inX8_lastOfLog_X8 (by decide) (jm_w C 2 rfl) (fun _ h => h) dX8_lastOfLog_14 ?_
    refine lv_bipush (v := 40) C.1 C.2.1 dX8_lastOfLog_17 (by decide) ?_
    refine lv_iload_n C.1 C.2.1 dX8_lastOfLog_19 rfl (hl.at 1 rfl) ?_
    refine lv_imul C.1 C.2.1 dX8_lastOfLog_20 ?_
    refine jw_aload_n C dX8_lastOfLog_21 rfl (hl.at 0 rfl) ?_
    obtain ⟨v5, h5, hf⟩ := jm_rd_ok hf
    refine jw_gR (Cn := RX8) (T := TX8) (N := 29) C hJ h5 rfl inX8_lastOfLog_X8 (by decide) (jm_w C 1 rfl) (fun _ h => h) dX8_lastOfLog_22 ?_
    refine lv_iload_n C.1 C.2.1 dX8_lastOfLog_25 rfl (hl.at 1 rfl) ?_
    obtain ⟨v6, h6, hf⟩ := jm_rd_ok hf
    refine jw_iaload C hJ h6 dX8_lastOfLog_26 ?_
    refine lv_iadd C.1 C.2.1 dX8_lastOfLog_27 ?_
    refine lv_iconst (v := 1) C.1 C.2.1 dX8_lastOfLog_28 (by decide) ?_
    refine lv_isub C.1 C.2.1 dX8_lastOfLog_29 ?_
    obtain ⟨v7, h7, hf⟩ := jm_rd_ok hf
    refine jw_iaload C hJ h7 dX8_lastOfLog_30 ?_
    obtain ⟨rfl, rfl⟩ := jm_ret_ok hf
    exact jw_ri C hJ hS (Nat.le_refl _) (Nat.le_refl _) dX8_lastOfLog_31
  · replace hf := jm_ift hf hq3
    refine lv_iconst (v := 0) C.1 C.2.1 dX8_lastOfLog_9 (by decide) ?_
    refine lv_goto (tgt := 31) C.1 C.2.1 dX8_lastOfLog_10 (by decide) ?_
    obtain ⟨rfl, rfl⟩ := jm_ret_ok hf
    exact jw_ri C hJ hS (Nat.le_refl _) (Nat.le_refl _) dX8_lastOfLog_31
set_option maxHeartbeats 4000000 in
set_option maxRecDepth 100000 in
theorem cX8_lastOfLog_C (l : Launch) (G : jm_G) (h0 : Nat) (x1 : Int32) {S Sf : jm_S} {rv : Int32} (hf : fX8_lastOfLog h0 x1 S = some (rv, Sf)) : Met l yX8_lastOfLog wsX8_lastOfLog ({ frames := 0, cells := 0, slots := 0, locals := 0 } : Room) (jm_Pc G S [.ref h0, .int x1]) (jm_Q G (some (.int rv)) Sf) 0 0 (jm_A G) := by
  refine Met.ofW (cc := cX8_lastOfLog) (maxL := 2) (ret := (some .int)) (by decide) rfl ?_
  intro p e s m args below meth c s₁ B hml hv
  obtain ⟨rfl, hJ, hX⟩ := hv
  have C : jm_C G cX8_lastOfLog 2 RX8 wsX8_lastOfLog ((some .int)) p s m _ meth c := ⟨B.exec, B.bytes, hml, findClass_of_methodNamed B.named, atoms_spec (ws := wsX8_lastOfLog) B.pre, B.returns, B.notSynchronized, hX⟩
  obtain ⟨ls, he, hl⟩ := jm_entry m [.inr (some h0), .inl x1] (n := 2) (Nat.le_of_ble_eq_true rfl)
  have he : entryFrame m ([.ref h0, .int x1] : List Value).toArray 2 = F0 m 0 ls [] := he
  rw [he]
  exact kX8_lastOfLog C h0 x1 hf hJ va_S.rf (hl.sub [0, 1] rfl)
/-! CoordinationServiceModel.common -/
def fX8_common_2 : Nat → Nat → Int32 → Int32 → Int32 → jm_P Int32
  | 0, _, _, _, _ => jm_no
  | n + 1, h0, x1, x2, x3 => jm_rd (jm_gR (some h0) 9 9) fun v1 => jm_rd (jm_gi v1 0 x1) fun v2 => (if v2 ≤ x3 then jm_ret x3 else jm_rd (jm_gR (some h0) 9 9) fun v4 => jm_rd (jm_gi v4 0 x2) fun v5 => (if v5 ≤ x3 then jm_ret x3 else jm_rd (jm_gR (some h0) 9 10) fun v7 => jm_rd (jm_gi v7 0 ((40 * x1) + x3)) fun v8 => jm_rd (jm_gR (some h0) 9 10) fun v9 => jm_rd (jm_gi v9 0 ((40 * x2) + x3)) fun v10 => (if v8 = v10 then fX8_common_2 n h0 x1 x2 (x3 + 1) else jm_ret x3)))
def fX8_common (h0 : Nat) (x1 : Int32) (x2 : Int32) : jm_P Int32 := fX8_common_2 4096 h0 x1 x2 0
theorem inX8_common_X8 : ∀ w ∈ wsX80, w ∈ wsX8_common := fun _ h => List.mem_cons_of_mem _ (List.mem_append_right _ h)
theorem moX8_common_2 : ∀ (n : Nat) (h0 : Nat) (x1 : Int32) (x2 : Int32) (x3 : Int32), jm_Mo (fX8_common_2 n h0 x1 x2 x3) := by
  intro n
  induction n with
  | zero =>
    intro h0 x1 x2 x3
    rw [fX8_common_2]
    exact jm_Mo_no
  | succ n ih =>
    intro h0 x1 x2 x3
    rw [fX8_common_2]
    exact jm_Mo_rd (fun _ => jm_Mo_rd (fun _ => jm_Mo_if (jm_Mo_ret _) (jm_Mo_rd (fun _ => jm_Mo_rd (fun _ => jm_Mo_if (jm_Mo_ret _) (jm_Mo_rd (fun _ => jm_Mo_rd (fun _ => jm_Mo_rd (fun _ => jm_Mo_rd (fun _ => jm_Mo_if (ih _ _ _ _) (jm_Mo_ret _)))))))))))
set_option maxHeartbeats 4000000 in
set_option maxRecDepth 100000 in
theorem kX8_common_2 {rv : Int32} {Sf : jm_S} (C : jm_C G cX8_common 4 RX8 wsX8_common ((some .int)) p s m args meth c) : ∀ (n : Nat) (h0 : Nat) (x1 : Int32) (x2 : Int32) (x3 : Int32) {S : jm_S} {H : Heap} {locs : List Loc} {ls : Array Slot}, fX8_common_2 n h0 x1 x2 x3 S = some (rv, Sf) → jm_J G S H → va_S (jm_A G) s.heap H locs → jm_L ls 4 [(0, .inr (some h0)), (1, .inl x1), (2, .inl x2), (3, .inl x3)] → W p l e ({ frames := 0, cells := 0, slots := 0, locals := 0 } : Room) s m args below meth c H locs 0 0 (MQ below (jm_Q G (some (.int rv)) Sf) args s 0 0 (jm_A G)) (F0 m 2 ls []) := by
  intro n
  induction n with
  | zero =>
    intro h0 x1 x2 x3 S H locs ls hf
    rw [fX8_common_2] at hf
    exact absurd hf (fun h => jm_no_ok h)
  | succ n ih =>
    intro h0 x1 x2 x3 S H locs ls hf hJ hS hl
    rw [fX8_common_2] at hf
    refine lv_iload_n C.1 C.2.1 dX8_common_2 rfl (hl.at 3 rfl) ?_
    refine jw_aload_n C dX8_common_3 rfl (hl.at 0 rfl) ?_
    obtain ⟨v1, h1, hf⟩ := jm_rd_ok hf
    refine jw_gR (Cn := RX8) (T := TX8) (N := 29) C hJ h1 rfl inX8_common_X8 (by decide) (jm_w C 1 rfl) (fun _ h => h) dX8_common_4 ?_
    refine lv_iload_n C.1 C.2.1 dX8_common_7 rfl (hl.at 1 rfl) ?_
    obtain ⟨v2, h2, hf⟩ := jm_rd_ok hf
    refine jw_iaload C hJ h2 dX8_common_8 ?_
    refine lv_icmp_ge (tgt := 53) C.1 C.2.1 dX8_common_9 (by decide) (fun hq3 => ?_) (fun hq3 => ?_)
    · replace hf := jm_ift hf hq3
      refine lv_iload_n C.1 C.2.1 dX8_common_53 rfl (hl.at 3 rfl) ?_
      obtain ⟨rfl, rfl⟩ := jm_ret_ok hf
      exact jw_ri C hJ hS (Nat.le_refl _) (Nat.le_refl _) dX8_common_54
    · replace hf := jm_iff hf hq3
      refine lv_iload_n C.1 C.2.1 dX8_common_12 rfl (hl.at 3 rfl) ?_
      refine jw_aload_n C dX8_common_13 rfl (hl.at 0 rfl) ?_
      obtain ⟨v4, h4, hf⟩ := jm_rd_ok hf
      refine jw_gR (Cn := RX8) (T := TX8) (N := 29) C hJ h4 rfl inX8_common_X8 (by decide) (jm_w C 1 rfl) (fun _ h => h) dX8_common_14 ?_
      refine lv_iload_n C.1 C.2.1 dX8_common_17 rfl (hl.at 2 rfl) ?_
      obtain ⟨v5, h5, hf⟩ := jm_rd_ok hf
      refine jw_iaload C hJ h5 dX8_common_18 ?_
      refine lv_icmp_ge (tgt := 53) C.1 C.2.1 dX8_common_19 (by decide) (fun hq6 => ?_) (fun hq6 => ?_)
      · replace hf := jm_ift hf hq6
        refine lv_iload_n C.1 C.2.1 dX8_common_53 rfl (hl.at 3 rfl) ?_
        obtain ⟨rfl, rfl⟩ := jm_ret_ok hf
        exact jw_ri C hJ hS (Nat.le_refl _) (Nat.le_refl _) dX8_common_54
      · replace hf := jm_iff hf hq6
        refine jw_aload_n C dX8_common_22 rfl (hl.at 0 rfl) ?_
        obtain ⟨v7, h7, hf⟩ := jm_rd_ok hf
        refine jw_gR (Cn := RX8) (T := TX8) (N := 29) C hJ h7 rfl inX8_common_X8 (by decide) (jm_w C 2 rfl) (fun _ h => h) dX8_common_23 ?_
        refine lv_bipush (v := 40) C.1 C.2.1 dX8_common_26 (by decide) ?_
        refine lv_iload_n C.1 C.2.1 dX8_common_28 rfl (hl.at 1 rfl) ?_
        refine lv_imul C.1 C.2.1 dX8_common_29 ?_
        refine lv_iload_n C.1 C.2.1 dX8_common_30 rfl (hl.at 3 rfl) ?_
        refine lv_iadd C.1 C.2.1 dX8_common_31 ?_
        obtain ⟨v8, h8, hf⟩ := jm_rd_ok hf
        refine jw_iaload C hJ h8 dX8_common_32 ?_
        refine jw_aload_n C dX8_common_33 rfl (hl.at 0 rfl) ?_
        obtain ⟨v9, h9, hf⟩ := jm_rd_ok hf
        refine jw_gR (Cn := RX8) (T := TX8) (N := 29) C hJ h9 rfl inX8_common_X8 (by decide) (jm_w C 2 rfl) (fun _ h => h) dX8_common_34 ?_
        refine lv_bipush (v := 40) C.1 C.2.1 dX8_common_37 (by decide) ?_
        refine lv_iload_n C.1 C.2.1 dX8_common_39 rfl (hl.at 2 rfl) ?_
        refine lv_imul C.1 C.2.1 dX8_common_40 ?_
        refine lv_iload_n C.1 C.2.1 dX8_common_41 rfl (hl.at 3 rfl) ?_
        refine lv_iadd C.1 C.2.1 dX8_common_42 ?_
        obtain ⟨v10, h10, hf⟩ := jm_rd_ok hf
        refine jw_iaload C hJ h10 dX8_common_43 ?_
        refine lv_icmp_ne (tgt := 53) C.1 C.2.1 dX8_common_44 (by decide) (fun hq11 => ?_) (fun hq11 => ?_)
        · replace hf := jm_iff hf hq11
          refine lv_iload_n C.1 C.2.1 dX8_common_53 rfl (hl.at 3 rfl) ?_
          obtain ⟨rfl, rfl⟩ := jm_ret_ok hf
          exact jw_ri C hJ hS (Nat.le_refl _) (Nat.le_refl _) dX8_common_54
        · replace hf := jm_ift hf hq11
          refine jw_iinc (v := x3 + 1) C 3 dX8_common_47 hl rfl (by rfl) (by decide) rfl (fun ls hl => ?_)
          refine lv_goto (tgt := 2) C.1 C.2.1 dX8_common_50 (by decide) ?_
          exact ih h0 x1 x2 (x3 + 1) hf hJ hS (hl.sub [1, 2, 3, 0] rfl)
theorem moX8_common (h0 : Nat) (x1 : Int32) (x2 : Int32) : jm_Mo (fX8_common h0 x1 x2) := by
  unfold fX8_common
  exact moX8_common_2 _ _ _ _ _
set_option maxHeartbeats 4000000 in
set_option maxRecDepth 100000 in
theorem kX8_common {rv : Int32} {Sf : jm_S} (C : jm_C G cX8_common 4 RX8 wsX8_common ((some .int)) p s m args meth c) : ∀ (h0 : Nat) (x1 : Int32) (x2 : Int32) {S : jm_S} {H : Heap} {locs : List Loc} {ls : Array Slot}, fX8_common h0 x1 x2 S = some (rv, Sf) → jm_J G S H → va_S (jm_A G) s.heap H locs → jm_L ls 4 [(0, .inr (some h0)), (1, .inl x1), (2, .inl x2)] → W p l e ({ frames := 0, cells := 0, slots := 0, locals := 0 } : Room) s m args below meth c H locs 0 0 (MQ below (jm_Q G (some (.int rv)) Sf) args s 0 0 (jm_A G)) (F0 m 0 ls []) := by
  intro h0 x1 x2 S H locs ls hf hJ hS hl
  unfold fX8_common at hf
  refine lv_iconst (v := 0) C.1 C.2.1 dX8_common_0 (by decide) ?_
  refine jw_istore_n C dX8_common_1 rfl hl (by decide) rfl (fun ls hl => ?_)
  exact kX8_common_2 C 4096 h0 x1 x2 0 hf hJ hS (hl.sub [1, 2, 3, 0] rfl)
set_option maxHeartbeats 4000000 in
set_option maxRecDepth 100000 in
theorem cX8_common_C (l : Launch) (G : jm_G) (h0 : Nat) (x1 : Int32) (x2 : Int32) {S Sf : jm_S} {rv : Int32} (hf : fX8_common h0 x1 x2 S = some (rv, Sf)) : Met l yX8_common wsX8_common ({ frames := 0, cells := 0, slots := 0, locals := 0 } : Room) (jm_Pc G S [.ref h0, .int x1, .int x2]) (jm_Q G (some (.int rv)) Sf) 0 0 (jm_A G) := by
  refine Met.ofW (cc := cX8_common) (maxL := 4) (ret := (some .int)) (by decide) rfl ?_
  intro p e s m args below meth c s₁ B hml hv
  obtain ⟨rfl, hJ, hX⟩ := hv
  have C : jm_C G cX8_common 4 RX8 wsX8_common ((some .int)) p s m _ meth c := ⟨B.exec, B.bytes, hml, findClass_of_methodNamed B.named, atoms_spec (ws := wsX8_common) B.pre, B.returns, B.notSynchronized, hX⟩
  obtain ⟨ls, he, hl⟩ := jm_entry m [.inr (some h0), .inl x1, .inl x2] (n := 4) (Nat.le_of_ble_eq_true rfl)
  have he : entryFrame m ([.ref h0, .int x1, .int x2] : List Value).toArray 4 = F0 m 0 ls [] := he
  rw [he]
  exact kX8_common C h0 x1 x2 hf hJ va_S.rf (hl.sub [0, 1, 2] rfl)
/-! CoordinationServiceModel.takes -/
def fX8_takes (h0 : Nat) (x1 : Int32) (x2 : Int32) : jm_P Unit := jm_rd (jm_gI (some h0) 9 5) fun v1 => jm_rd (jm_gR (some h0) 9 9) fun v2 => jm_rd (jm_gi v2 0 x1) fun v3 => jm_rd (jm_gR (some h0) 9 10) fun v4 => jm_rd (jm_gR (some h0) 9 10) fun v5 => jm_rd (jm_gi v5 0 ((40 * v1) + x2)) fun v6 => jm_wr (jm_si v4 0 ((40 * x1) + v3) v6) <| jm_rd (jm_gR (some h0) 9 11) fun v8 => jm_rd (jm_gR (some h0) 9 11) fun v9 => jm_rd (jm_gi v9 0 ((40 * v1) + x2)) fun v10 => jm_wr (jm_si v8 0 ((40 * x1) + v3) v10) <| jm_rd (jm_gR (some h0) 9 12) fun v12 => jm_rd (jm_gR (some h0) 9 12) fun v13 => jm_rd (jm_gi v13 0 ((40 * v1) + x2)) fun v14 => jm_wr (jm_si v12 0 ((40 * x1) + v3) v14) <| jm_rd (jm_gR (some h0) 9 13) fun v16 => jm_rd (jm_gR (some h0) 9 13) fun v17 => jm_rd (jm_gi v17 0 ((40 * v1) + x2)) fun v18 => jm_wr (jm_si v16 0 ((40 * x1) + v3) v18) <| jm_rd (jm_gR (some h0) 9 14) fun v20 => jm_rd (jm_gR (some h0) 9 14) fun v21 => jm_rd (jm_gi v21 0 ((40 * v1) + x2)) fun v22 => jm_wr (jm_si v20 0 ((40 * x1) + v3) v22) <| jm_rd (jm_gR (some h0) 9 9) fun v24 => jm_rd (jm_gi v24 0 x1) fun v25 => jm_wr (jm_si v24 0 x1 (v25 + 1)) <| jm_ret ()
theorem inX8_takes_X8 : ∀ w ∈ wsX80, w ∈ wsX8_takes := fun _ h => List.mem_cons_of_mem _ (List.mem_append_right _ h)
theorem moX8_takes (h0 : Nat) (x1 : Int32) (x2 : Int32) : jm_Mo (fX8_takes h0 x1 x2) := by
  unfold fX8_takes
  exact jm_Mo_rd (fun _ => jm_Mo_rd (fun _ => jm_Mo_rd (fun _ => jm_Mo_rd (fun _ => jm_Mo_rd (fun _ => jm_Mo_rd (fun _ => jm_Mo_wr jm_si_st (jm_Mo_rd (fun _ => jm_Mo_rd (fun _ => jm_Mo_rd (fun _ => jm_Mo_wr jm_si_st (jm_Mo_rd (fun _ => jm_Mo_rd (fun _ => jm_Mo_rd (fun _ => jm_Mo_wr jm_si_st (jm_Mo_rd (fun _ => jm_Mo_rd (fun _ => jm_Mo_rd (fun _ => jm_Mo_wr jm_si_st (jm_Mo_rd (fun _ => jm_Mo_rd (fun _ => jm_Mo_rd (fun _ => jm_Mo_wr jm_si_st (jm_Mo_rd (fun _ => jm_Mo_rd (fun _ => jm_Mo_wr jm_si_st (jm_Mo_ret _))))))))))))))))))))))))))
set_option maxHeartbeats 4000000 in
set_option maxRecDepth 100000 in
theorem kX8_takes {rv : Unit} {Sf : jm_S} (C : jm_C G cX8_takes 5 RX8 wsX8_takes (none) p s m args meth c) : ∀ (h0 : Nat) (x1 : Int32) (x2 : Int32) {S : jm_S} {H : Heap} {locs : List Loc} {ls : Array Slot}, fX8_takes h0 x1 x2 S = some (rv, Sf) → jm_J G S H → va_S (jm_A G) s.heap H locs → jm_L ls 5 [(0, .inr (some h0)), (1, .inl x1), (2, .inl x2)] → W p l e ({ frames := 0, cells := 0, slots := 0, locals := 0 } : Room) s m args below meth c H locs 0 0 (MQ below (jm_Q G (none) Sf) args s 0 0 (jm_A G)) (F0 m 0 ls []) := by
  intro h0 x1 x2 S H locs ls hf hJ hS hl
  unfold fX8_takes at hf
  refine lv_bipush (v := 40) C.1 C.2.1 dX8_takes_0 (by decide) ?_
  refine jw_aload_n C dX8_takes_2 rfl (hl.at 0 rfl) ?_
  obtain ⟨v1, h1, hf⟩ := jm_rd_ok hf
  refine jw_gI (Cn := RX8) (T := TX8) (N := 29) C hJ h1 rfl inX8_takes_X8 (by decide) (jm_w C 1 rfl) (fun _ h => h) dX8_takes_3 ?_
  refine lv_imul C.1 C.2.1 dX8_takes_6 ?_
  refine lv_iload_n C.1 C.2.1 dX8_takes_7 rfl (hl.at 2 rfl) ?_
  refine lv_iadd C.1 C.2.1 dX8_takes_8 ?_
  refine jw_istore_n C dX8_takes_9 rfl hl (by decide) rfl (fun ls hl => ?_)
  refine lv_bipush (v := 40) C.1 C.2.1 dX8_takes_10 (by decide) ?_
  refine lv_iload_n C.1 C.2.1 dX8_takes_12 rfl (hl.at 2 rfl) ?_
  refine lv_imul C.1 C.2.1 dX8_takes_13 ?_
  refine jw_aload_n C dX8_takes_14 rfl (hl.at 1 rfl) ?_
  obtain ⟨v2, h2, hf⟩ := jm_rd_ok hf
  refine jw_gR (Cn := RX8) (T := TX8) (N := 29) C hJ h2 rfl inX8_takes_X8 (by decide) (jm_w C 2 rfl) (fun _ h => h) dX8_takes_15 ?_
  refine lv_iload_n C.1 C.2.1 dX8_takes_18 rfl (hl.at 2 rfl) ?_
  obtain ⟨v3, h3, hf⟩ := jm_rd_ok hf
  refine jw_iaload C hJ h3 dX8_takes_19 ?_
  refine lv_iadd C.1 C.2.1 dX8_takes_20 ?_
  refine jw_istore C dX8_takes_21 hl (by decide) rfl (fun ls hl => ?_)
  refine jw_aload_n C dX8_takes_23 rfl (hl.at 2 rfl) ?_
  obtain ⟨v4, h4, hf⟩ := jm_rd_ok hf
  refine jw_gR (Cn := RX8) (T := TX8) (N := 29) C hJ h4 rfl inX8_takes_X8 (by decide) (jm_w C 3 rfl) (fun _ h => h) dX8_takes_24 ?_
  refine lv_iload C.1 C.2.1 dX8_takes_27 (hl.at 0 rfl) ?_
  refine jw_aload_n C dX8_takes_29 rfl (hl.at 2 rfl) ?_
  obtain ⟨v5, h5, hf⟩ := jm_rd_ok hf
  refine jw_gR (Cn := RX8) (T := TX8) (N := 29) C hJ h5 rfl inX8_takes_X8 (by decide) (jm_w C 3 rfl) (fun _ h => h) dX8_takes_30 ?_
  refine lv_iload_n C.1 C.2.1 dX8_takes_33 rfl (hl.at 1 rfl) ?_
  obtain ⟨v6, h6, hf⟩ := jm_rd_ok hf
  refine jw_iaload C hJ h6 dX8_takes_34 ?_
  obtain ⟨S7, h7, hf⟩ := jm_wr_ok hf
  refine jw_iastore C hJ hS h7 dX8_takes_35 (fun H locs hJ hS => ?_)
  refine jw_aload_n C dX8_takes_36 rfl (hl.at 2 rfl) ?_
  obtain ⟨v8, h8, hf⟩ := jm_rd_ok hf
  refine jw_gR (Cn := RX8) (T := TX8) (N := 29) C hJ h8 rfl inX8_takes_X8 (by decide) (jm_w C 4 rfl) (fun _ h => h) dX8_takes_37 ?_
  refine lv_iload C.1 C.2.1 dX8_takes_40 (hl.at 0 rfl) ?_
  refine jw_aload_n C dX8_takes_42 rfl (hl.at 2 rfl) ?_
  obtain ⟨v9, h9, hf⟩ := jm_rd_ok hf
  refine jw_gR (Cn := RX8) (T := TX8) (N := 29) C hJ h9 rfl inX8_takes_X8 (by decide) (jm_w C 4 rfl) (fun _ h => h) dX8_takes_43 ?_
  refine lv_iload_n C.1 C.2.1 dX8_takes_46 rfl (hl.at 1 rfl) ?_
  obtain ⟨v10, h10, hf⟩ := jm_rd_ok hf
  refine jw_iaload C hJ h10 dX8_takes_47 ?_
  obtain ⟨S11, h11, hf⟩ := jm_wr_ok hf
  refine jw_iastore C hJ hS h11 dX8_takes_48 (fun H locs hJ hS => ?_)
  refine jw_aload_n C dX8_takes_49 rfl (hl.at 2 rfl) ?_
  obtain ⟨v12, h12, hf⟩ := jm_rd_ok hf
  refine jw_gR (Cn := RX8) (T := TX8) (N := 29) C hJ h12 rfl inX8_takes_X8 (by decide) (jm_w C 5 rfl) (fun _ h => h) dX8_takes_50 ?_
  refine lv_iload C.1 C.2.1 dX8_takes_53 (hl.at 0 rfl) ?_
  refine jw_aload_n C dX8_takes_55 rfl (hl.at 2 rfl) ?_
  obtain ⟨v13, h13, hf⟩ := jm_rd_ok hf
  refine jw_gR (Cn := RX8) (T := TX8) (N := 29) C hJ h13 rfl inX8_takes_X8 (by decide) (jm_w C 5 rfl) (fun _ h => h) dX8_takes_56 ?_
  refine lv_iload_n C.1 C.2.1 dX8_takes_59 rfl (hl.at 1 rfl) ?_
  obtain ⟨v14, h14, hf⟩ := jm_rd_ok hf
  refine jw_iaload C hJ h14 dX8_takes_60 ?_
  obtain ⟨S15, h15, hf⟩ := jm_wr_ok hf
  refine jw_iastore C hJ hS h15 dX8_takes_61 (fun H locs hJ hS => ?_)
  refine jw_aload_n C dX8_takes_62 rfl (hl.at 2 rfl) ?_
  obtain ⟨v16, h16, hf⟩ := jm_rd_ok hf
  refine jw_gR (Cn := RX8) (T := TX8) (N := 29) C hJ h16 rfl inX8_takes_X8 (by decide) (jm_w C 6 rfl) (fun _ h => h) dX8_takes_63 ?_
  refine lv_iload C.1 C.2.1 dX8_takes_66 (hl.at 0 rfl) ?_
  refine jw_aload_n C dX8_takes_68 rfl (hl.at 2 rfl) ?_
  obtain ⟨v17, h17, hf⟩ := jm_rd_ok hf
  refine jw_gR (Cn := RX8) (T := TX8) (N := 29) C hJ h17 rfl inX8_takes_X8 (by decide) (jm_w C 6 rfl) (fun _ h => h) dX8_takes_69 ?_
  refine lv_iload_n C.1 C.2.1 dX8_takes_72 rfl (hl.at 1 rfl) ?_
  obtain ⟨v18, h18, hf⟩ := jm_rd_ok hf
  refine jw_iaload C hJ h18 dX8_takes_73 ?_
  obtain ⟨S19, h19, hf⟩ := jm_wr_ok hf
  refine jw_iastore C hJ hS h19 dX8_takes_74 (fun H locs hJ hS => ?_)
  refine jw_aload_n C dX8_takes_75 rfl (hl.at 2 rfl) ?_
  obtain ⟨v20, h20, hf⟩ := jm_rd_ok hf
  refine jw_gR (Cn := RX8) (T := TX8) (N := 29) C hJ h20 rfl inX8_takes_X8 (by decide) (jm_w C 7 rfl) (fun _ h => h) dX8_takes_76 ?_
  refine lv_iload C.1 C.2.1 dX8_takes_79 (hl.at 0 rfl) ?_
  refine jw_aload_n C dX8_takes_81 rfl (hl.at 2 rfl) ?_
  obtain ⟨v21, h21, hf⟩ := jm_rd_ok hf
  refine jw_gR (Cn := RX8) (T := TX8) (N := 29) C hJ h21 rfl inX8_takes_X8 (by decide) (jm_w C 7 rfl) (fun _ h => h) dX8_takes_82 ?_
  refine lv_iload_n C.1 C.2.1 dX8_takes_85 rfl (hl.at 1 rfl) ?_
  obtain ⟨v22, h22, hf⟩ := jm_rd_ok hf
  refine jw_iaload C hJ h22 dX8_takes_86 ?_
  obtain ⟨S23, h23, hf⟩ := jm_wr_ok hf
  refine jw_iastore C hJ hS h23 dX8_takes_87 (fun H locs hJ hS => ?_)
  refine jw_aload_n C dX8_takes_88 rfl (hl.at 2 rfl) ?_
  obtain ⟨v24, h24, hf⟩ := jm_rd_ok hf
  refine jw_gR (Cn := RX8) (T := TX8) (N := 29) C hJ h24 rfl inX8_takes_X8 (by decide) (jm_w C 2 rfl) (fun _ h => h) dX8_takes_89 ?_
  refine lv_iload_n C.1 C.2.1 dX8_takes_92 rfl (hl.at 3 rfl) ?_
  refine lv_dup2_11 C.1 C.2.1 dX8_takes_93 rfl (jm_catr _) ?_
  obtain ⟨v25, h25, hf⟩ := jm_rd_ok hf
  refine jw_iaload C hJ h25 dX8_takes_94 ?_
  refine lv_iconst (v := 1) C.1 C.2.1 dX8_takes_95 (by decide) ?_
  refine lv_iadd C.1 C.2.1 dX8_takes_96 ?_
  obtain ⟨S26, h26, hf⟩ := jm_wr_ok hf
  refine jw_iastore C hJ hS h26 dX8_takes_97 (fun H locs hJ hS => ?_)
  obtain ⟨rfl, rfl⟩ := jm_ret_ok hf
  exact jw_rv C hJ hS (Nat.le_refl _) (Nat.le_refl _) dX8_takes_98
set_option maxHeartbeats 4000000 in
set_option maxRecDepth 100000 in
theorem cX8_takes_C (l : Launch) (G : jm_G) (h0 : Nat) (x1 : Int32) (x2 : Int32) {S Sf : jm_S} {rv : Unit} (hf : fX8_takes h0 x1 x2 S = some (rv, Sf)) : Met l yX8_takes wsX8_takes ({ frames := 0, cells := 0, slots := 0, locals := 0 } : Room) (jm_Pc G S [.ref h0, .int x1, .int x2]) (jm_Q G (none) Sf) 0 0 (jm_A G) := by
  refine Met.ofW (cc := cX8_takes) (maxL := 5) (ret := none) (by decide) rfl ?_
  intro p e s m args below meth c s₁ B hml hv
  obtain ⟨rfl, hJ, hX⟩ := hv
  have C : jm_C G cX8_takes 5 RX8 wsX8_takes (none) p s m _ meth c := ⟨B.exec, B.bytes, hml, findClass_of_methodNamed B.named, atoms_spec (ws := wsX8_takes) B.pre, B.returns, B.notSynchronized, hX⟩
  obtain ⟨ls, he, hl⟩ := jm_entry m [.inr (some h0), .inl x1, .inl x2] (n := 5) (Nat.le_of_ble_eq_true rfl)
  have he : entryFrame m ([.ref h0, .int x1, .int x2] : List Value).toArray 5 = F0 m 0 ls [] := he
  rw [he]
  exact kX8_takes C h0 x1 x2 hf hJ va_S.rf (hl.sub [0, 1, 2] rfl)
/-! CoordinationServiceModel.becomesLike -/
def fX8_becomesLike_29 : Nat → Nat → Int32 → Int32 → Int32 → Int32 → jm_P Int32
  | 0, _, _, _, _, _ => jm_no
  | n + 1, h0, x1, x2, x3, x4 => jm_rd (jm_gR (some h0) 9 9) fun v7 => jm_rd (jm_gI (some h0) 9 5) fun v8 => jm_rd (jm_gi v7 0 v8) fun v9 => (if v9 ≤ x4 then jm_rd (jm_gR (some h0) 9 2) fun v11 => jm_rd (jm_z 1) fun _ => jm_wr (jm_si v11 1 x1 1) <| jm_rd (jm_gR (some h0) 9 9) fun v13 => jm_rd (jm_gI (some h0) 9 5) fun v14 => jm_rd (jm_gi v13 0 v14) fun v15 => jm_ret (((100 * x3) + v15) - x2) else jm_rd (jm_o (some h0) 9) fun a16 => jm_bd (fX8_takes a16 x1 x4) fun _ => fX8_becomesLike_29 n h0 x1 x2 x3 (x4 + 1))
def fX8_becomesLike (h0 : Nat) (x1 : Int32) : jm_P Int32 := jm_rd (jm_gI (some h0) 9 5) fun v1 => jm_rd (jm_o (some h0) 9) fun a2 => jm_bd (fX8_common a2 x1 v1) fun v2 => jm_rd (jm_gR (some h0) 9 9) fun v3 => jm_rd (jm_gi v3 0 x1) fun v4 => jm_rd (jm_gR (some h0) 9 9) fun v5 => jm_wr (jm_si v5 0 x1 v2) <| fX8_becomesLike_29 4096 h0 x1 v2 (v4 - v2) v2
theorem inX8_becomesLike_X8 : ∀ w ∈ wsX80, w ∈ wsX8_becomesLike := fun _ h => List.mem_cons_of_mem _ (List.mem_append_right _ h)
theorem moX8_becomesLike_29 : ∀ (n : Nat) (h0 : Nat) (x1 : Int32) (x2 : Int32) (x3 : Int32) (x4 : Int32), jm_Mo (fX8_becomesLike_29 n h0 x1 x2 x3 x4) := by
  intro n
  induction n with
  | zero =>
    intro h0 x1 x2 x3 x4
    rw [fX8_becomesLike_29]
    exact jm_Mo_no
  | succ n ih =>
    intro h0 x1 x2 x3 x4
    rw [fX8_becomesLike_29]
    exact jm_Mo_rd (fun _ => jm_Mo_rd (fun _ => jm_Mo_rd (fun _ => jm_Mo_if (jm_Mo_rd (fun _ => jm_Mo_rd (fun _ => jm_Mo_wr jm_si_st (jm_Mo_rd (fun _ => jm_Mo_rd (fun _ => jm_Mo_rd (fun _ => jm_Mo_ret _))))))) (jm_Mo_rd (fun _ => jm_Mo_bd (moX8_takes _ _ _) (fun _ => ih _ _ _ _ _))))))
set_option maxHeartbeats 4000000 in
set_option maxRecDepth 100000 in
theorem kX8_becomesLike_29 {rv : Int32} {Sf : jm_S} (C : jm_C G cX8_becomesLike 5 RX8 wsX8_becomesLike ((some .int)) p s m args meth c) : ∀ (n : Nat) (h0 : Nat) (x1 : Int32) (x2 : Int32) (x3 : Int32) (x4 : Int32) {S : jm_S} {H : Heap} {locs : List Loc} {ls : Array Slot}, fX8_becomesLike_29 n h0 x1 x2 x3 x4 S = some (rv, Sf) → jm_J G S H → va_S (jm_A G) s.heap H locs → jm_L ls 5 [(0, .inr (some h0)), (1, .inl x1), (2, .inl x2), (3, .inl x3), (4, .inl x4)] → W p l e ({ frames := 1, cells := 0, slots := 0, locals := 24 } : Room) s m args below meth c H locs 0 0 (MQ below (jm_Q G (some (.int rv)) Sf) args s 0 0 (jm_A G)) (F0 m 29 ls []) := by
  intro n
  induction n with
  | zero =>
    intro h0 x1 x2 x3 x4 S H locs ls hf
    rw [fX8_becomesLike_29] at hf
    exact absurd hf (fun h => jm_no_ok h)
  | succ n ih =>
    intro h0 x1 x2 x3 x4 S H locs ls hf hJ hS hl
    rw [fX8_becomesLike_29] at hf
    refine lv_iload C.1 C.2.1 dX8_becomesLike_29 (hl.at 4 rfl) ?_
    refine jw_aload_n C dX8_becomesLike_31 rfl (hl.at 0 rfl) ?_
    obtain ⟨v7, h7, hf⟩ := jm_rd_ok hf
    refine jw_gR (Cn := RX8) (T := TX8) (N := 29) C hJ h7 rfl inX8_becomesLike_X8 (by decide) (jm_w C 2 rfl) (fun _ h => h) dX8_becomesLike_32 ?_
    refine jw_aload_n C dX8_becomesLike_35 rfl (hl.at 0 rfl) ?_
    obtain ⟨v8, h8, hf⟩ := jm_rd_ok hf
    refine jw_gI (Cn := RX8) (T := TX8) (N := 29) C hJ h8 rfl inX8_becomesLike_X8 (by decide) (jm_w C 1 rfl) (fun _ h => h) dX8_becomesLike_36 ?_
    obtain ⟨v9, h9, hf⟩ := jm_rd_ok hf
    refine jw_iaload C hJ h9 dX8_becomesLike_39 ?_
    refine lv_icmp_ge (tgt := 56) C.1 C.2.1 dX8_becomesLike_40 (by decide) (fun hq10 => ?_) (fun hq10 => ?_)
    · replace hf := jm_ift hf hq10
      refine jw_aload_n C dX8_becomesLike_56 rfl (hl.at 0 rfl) ?_
      obtain ⟨v11, h11, hf⟩ := jm_rd_ok hf
      refine jw_gR (Cn := RX8) (T := TX8) (N := 29) C hJ h11 rfl inX8_becomesLike_X8 (by decide) (jm_w C 3 rfl) (fun _ h => h) dX8_becomesLike_57 ?_
      refine lv_iload_n C.1 C.2.1 dX8_becomesLike_60 rfl (hl.at 1 rfl) ?_
      refine lv_iconst (v := 1) C.1 C.2.1 dX8_becomesLike_61 (by decide) ?_
      obtain ⟨u12, z12, hf⟩ := jm_rd_ok hf
      obtain ⟨S12, h12, hf⟩ := jm_wr_ok hf
      refine jw_zastore C hJ hS z12 h12 dX8_becomesLike_62 (fun H locs hJ hS => ?_)
      refine lv_bipush (v := 100) C.1 C.2.1 dX8_becomesLike_63 (by decide) ?_
      refine lv_iload_n C.1 C.2.1 dX8_becomesLike_65 rfl (hl.at 3 rfl) ?_
      refine lv_imul C.1 C.2.1 dX8_becomesLike_66 ?_
      refine jw_aload_n C dX8_becomesLike_67 rfl (hl.at 0 rfl) ?_
      obtain ⟨v13, h13, hf⟩ := jm_rd_ok hf
      refine jw_gR (Cn := RX8) (T := TX8) (N := 29) C hJ h13 rfl inX8_becomesLike_X8 (by decide) (jm_w C 2 rfl) (fun _ h => h) dX8_becomesLike_68 ?_
      refine jw_aload_n C dX8_becomesLike_71 rfl (hl.at 0 rfl) ?_
      obtain ⟨v14, h14, hf⟩ := jm_rd_ok hf
      refine jw_gI (Cn := RX8) (T := TX8) (N := 29) C hJ h14 rfl inX8_becomesLike_X8 (by decide) (jm_w C 1 rfl) (fun _ h => h) dX8_becomesLike_72 ?_
      obtain ⟨v15, h15, hf⟩ := jm_rd_ok hf
      refine jw_iaload C hJ h15 dX8_becomesLike_75 ?_
      refine lv_iadd C.1 C.2.1 dX8_becomesLike_76 ?_
      refine lv_iload_n C.1 C.2.1 dX8_becomesLike_77 rfl (hl.at 2 rfl) ?_
      refine lv_isub C.1 C.2.1 dX8_becomesLike_78 ?_
      obtain ⟨rfl, rfl⟩ := jm_ret_ok hf
      exact jw_ri C hJ hS (Nat.le_refl _) (Nat.le_refl _) dX8_becomesLike_79
    · replace hf := jm_iff hf hq10
      refine jw_aload_n C dX8_becomesLike_43 rfl (hl.at 0 rfl) ?_
      refine lv_iload_n C.1 C.2.1 dX8_becomesLike_44 rfl (hl.at 1 rfl) ?_
      refine lv_iload C.1 C.2.1 dX8_becomesLike_45 (hl.at 4 rfl) ?_
      obtain ⟨a16, o16, hf⟩ := jm_rd_ok hf
      obtain ⟨v16, S16, h16, hf⟩ := jm_bd_ok hf
      refine jw_cV (q := (RX8, TX8, 29)) C hJ hS o16 rfl (cX8_takes_C l G a16 x1 x4 h16) (cwV 2 C.2.2.2.2.1 gX8_becomesLike_X8_takes rfl rfl rfl (by decide +kernel) ⟨Nat.le_of_ble_eq_true rfl, Nat.le_of_ble_eq_true rfl⟩) rfl hl.1 rfl (Nat.le_of_ble_eq_true rfl) dX8_becomesLike_47 ⟨Nat.le_refl _, Nat.le_refl _⟩ (fun H locs hJ hS => ?_)
      refine jw_iinc (v := x4 + 1) C 4 dX8_becomesLike_50 hl rfl (by rfl) (by decide) rfl (fun ls hl => ?_)
      refine lv_goto (tgt := 29) C.1 C.2.1 dX8_becomesLike_53 (by decide) ?_
      exact ih h0 x1 x2 x3 (x4 + 1) hf hJ hS (hl.sub [1, 2, 3, 4, 0] rfl)
theorem moX8_becomesLike (h0 : Nat) (x1 : Int32) : jm_Mo (fX8_becomesLike h0 x1) := by
  unfold fX8_becomesLike
  exact jm_Mo_rd (fun _ => jm_Mo_rd (fun _ => jm_Mo_bd (moX8_common _ _ _) (fun _ => jm_Mo_rd (fun _ => jm_Mo_rd (fun _ => jm_Mo_rd (fun _ => jm_Mo_wr jm_si_st (moX8_becomesLike_29 _ _ _ _ _ _)))))))
set_option maxHeartbeats 4000000 in
set_option maxRecDepth 100000 in
theorem kX8_becomesLike {rv : Int32} {Sf : jm_S} (C : jm_C G cX8_becomesLike 5 RX8 wsX8_becomesLike ((some .int)) p s m args meth c) : ∀ (h0 : Nat) (x1 : Int32) {S : jm_S} {H : Heap} {locs : List Loc} {ls : Array Slot}, fX8_becomesLike h0 x1 S = some (rv, Sf) → jm_J G S H → va_S (jm_A G) s.heap H locs → jm_L ls 5 [(0, .inr (some h0)), (1, .inl x1)] → W p l e ({ frames := 1, cells := 0, slots := 0, locals := 24 } : Room) s m args below meth c H locs 0 0 (MQ below (jm_Q G (some (.int rv)) Sf) args s 0 0 (jm_A G)) (F0 m 0 ls []) := by
  intro h0 x1 S H locs ls hf hJ hS hl
  unfold fX8_becomesLike at hf
  refine jw_aload_n C dX8_becomesLike_0 rfl (hl.at 0 rfl) ?_
  refine lv_iload_n C.1 C.2.1 dX8_becomesLike_1 rfl (hl.at 1 rfl) ?_
  refine jw_aload_n C dX8_becomesLike_2 rfl (hl.at 0 rfl) ?_
  obtain ⟨v1, h1, hf⟩ := jm_rd_ok hf
  refine jw_gI (Cn := RX8) (T := TX8) (N := 29) C hJ h1 rfl inX8_becomesLike_X8 (by decide) (jm_w C 1 rfl) (fun _ h => h) dX8_becomesLike_3 ?_
  obtain ⟨a2, o2, hf⟩ := jm_rd_ok hf
  obtain ⟨v2, S2, h2, hf⟩ := jm_bd_ok hf
  refine jw_cV (q := (RX8, TX8, 29)) C hJ hS o2 rfl (cX8_common_C l G a2 x1 v1 h2) (cwV 2 C.2.2.2.2.1 gX8_becomesLike_X8_common rfl rfl rfl (by decide +kernel) ⟨Nat.le_of_ble_eq_true rfl, Nat.le_of_ble_eq_true rfl⟩) rfl hl.1 rfl (Nat.le_of_ble_eq_true rfl) dX8_becomesLike_6 ⟨Nat.le_refl _, Nat.le_refl _⟩ (fun H locs hJ hS => ?_)
  refine jw_istore_n C dX8_becomesLike_9 rfl hl (by decide) rfl (fun ls hl => ?_)
  refine jw_aload_n C dX8_becomesLike_10 rfl (hl.at 1 rfl) ?_
  obtain ⟨v3, h3, hf⟩ := jm_rd_ok hf
  refine jw_gR (Cn := RX8) (T := TX8) (N := 29) C hJ h3 rfl inX8_becomesLike_X8 (by decide) (jm_w C 2 rfl) (fun _ h => h) dX8_becomesLike_11 ?_
  refine lv_iload_n C.1 C.2.1 dX8_becomesLike_14 rfl (hl.at 2 rfl) ?_
  obtain ⟨v4, h4, hf⟩ := jm_rd_ok hf
  refine jw_iaload C hJ h4 dX8_becomesLike_15 ?_
  refine lv_iload_n C.1 C.2.1 dX8_becomesLike_16 rfl (hl.at 0 rfl) ?_
  refine lv_isub C.1 C.2.1 dX8_becomesLike_17 ?_
  refine jw_istore_n C dX8_becomesLike_18 rfl hl (by decide) rfl (fun ls hl => ?_)
  refine jw_aload_n C dX8_becomesLike_19 rfl (hl.at 2 rfl) ?_
  obtain ⟨v5, h5, hf⟩ := jm_rd_ok hf
  refine jw_gR (Cn := RX8) (T := TX8) (N := 29) C hJ h5 rfl inX8_becomesLike_X8 (by decide) (jm_w C 2 rfl) (fun _ h => h) dX8_becomesLike_20 ?_
  refine lv_iload_n C.1 C.2.1 dX8_becomesLike_23 rfl (hl.at 3 rfl) ?_
  refine lv_iload_n C.1 C.2.1 dX8_becomesLike_24 rfl (hl.at 1 rfl) ?_
  obtain ⟨S6, h6, hf⟩ := jm_wr_ok hf
  refine jw_iastore C hJ hS h6 dX8_becomesLike_25 (fun H locs hJ hS => ?_)
  refine lv_iload_n C.1 C.2.1 dX8_becomesLike_26 rfl (hl.at 1 rfl) ?_
  refine jw_istore C dX8_becomesLike_27 hl (by decide) rfl (fun ls hl => ?_)
  exact kX8_becomesLike_29 C 4096 h0 x1 v2 (v4 - v2) v2 hf hJ hS (hl.sub [3, 4, 2, 1, 0] rfl)
set_option maxHeartbeats 4000000 in
set_option maxRecDepth 100000 in
theorem cX8_becomesLike_C (l : Launch) (G : jm_G) (h0 : Nat) (x1 : Int32) {S Sf : jm_S} {rv : Int32} (hf : fX8_becomesLike h0 x1 S = some (rv, Sf)) : Met l yX8_becomesLike wsX8_becomesLike ({ frames := 1, cells := 0, slots := 0, locals := 24 } : Room) (jm_Pc G S [.ref h0, .int x1]) (jm_Q G (some (.int rv)) Sf) 0 0 (jm_A G) := by
  refine Met.ofW (cc := cX8_becomesLike) (maxL := 5) (ret := (some .int)) (by decide) rfl ?_
  intro p e s m args below meth c s₁ B hml hv
  obtain ⟨rfl, hJ, hX⟩ := hv
  have C : jm_C G cX8_becomesLike 5 RX8 wsX8_becomesLike ((some .int)) p s m _ meth c := ⟨B.exec, B.bytes, hml, findClass_of_methodNamed B.named, atoms_spec (ws := wsX8_becomesLike) B.pre, B.returns, B.notSynchronized, hX⟩
  obtain ⟨ls, he, hl⟩ := jm_entry m [.inr (some h0), .inl x1] (n := 5) (Nat.le_of_ble_eq_true rfl)
  have he : entryFrame m ([.ref h0, .int x1] : List Value).toArray 5 = F0 m 0 ls [] := he
  rw [he]
  exact kX8_becomesLike C h0 x1 hf hJ va_S.rf (hl.sub [0, 1] rfl)
/-! CoordinationServiceModel.goesOn -/
def fX8_goesOn_2 : Nat → Nat → Int32 → Int32 → Int32 → jm_P Int32
  | 0, _, _, _, _ => jm_no
  | n + 1, h0, x1, x2, x3 => jm_rd (jm_gR (some h0) 9 4) fun v1 => jm_rd (jm_gi v1 0 x1) fun v2 => (if x2 ≤ v2 then jm_ret x3 else jm_rd (jm_gR (some h0) 9 4) fun v4 => jm_rd (jm_gi v4 0 x1) fun v5 => jm_rd (jm_gR (some h0) 9 9) fun v6 => jm_rd (jm_gi v6 0 x1) fun v7 => (if v7 ≤ v5 then jm_ret x3 else jm_rd (jm_gR (some h0) 9 4) fun v9 => jm_rd (jm_gi v9 0 x1) fun v10 => jm_rd (jm_o (some h0) 9) fun a11 => jm_bd (fX8_applies a11 x1 ((40 * x1) + v10)) fun _ => jm_rd (jm_gR (some h0) 9 4) fun v12 => jm_rd (jm_gi v12 0 x1) fun v13 => jm_wr (jm_si v12 0 x1 (v13 + 1)) <| fX8_goesOn_2 n h0 x1 x2 (x3 + 1)))
def fX8_goesOn (h0 : Nat) (x1 : Int32) (x2 : Int32) : jm_P Int32 := fX8_goesOn_2 4096 h0 x1 x2 0
theorem inX8_goesOn_X8 : ∀ w ∈ wsX80, w ∈ wsX8_goesOn := fun _ h => List.mem_cons_of_mem _ (List.mem_append_right _ h)
theorem moX8_goesOn_2 : ∀ (n : Nat) (h0 : Nat) (x1 : Int32) (x2 : Int32) (x3 : Int32), jm_Mo (fX8_goesOn_2 n h0 x1 x2 x3) := by
  intro n
  induction n with
  | zero =>
    intro h0 x1 x2 x3
    rw [fX8_goesOn_2]
    exact jm_Mo_no
  | succ n ih =>
    intro h0 x1 x2 x3
    rw [fX8_goesOn_2]
    exact jm_Mo_rd (fun _ => jm_Mo_rd (fun _ => jm_Mo_if (jm_Mo_ret _) (jm_Mo_rd (fun _ => jm_Mo_rd (fun _ => jm_Mo_rd (fun _ => jm_Mo_rd (fun _ => jm_Mo_if (jm_Mo_ret _) (jm_Mo_rd (fun _ => jm_Mo_rd (fun _ => jm_Mo_rd (fun _ => jm_Mo_bd (moX8_applies _ _ _) (fun _ => jm_Mo_rd (fun _ => jm_Mo_rd (fun _ => jm_Mo_wr jm_si_st (ih _ _ _ _)))))))))))))))
set_option maxHeartbeats 4000000 in
set_option maxRecDepth 100000 in
theorem kX8_goesOn_2 {rv : Int32} {Sf : jm_S} (C : jm_C G cX8_goesOn 4 RX8 wsX8_goesOn ((some .int)) p s m args meth c) : ∀ (n : Nat) (h0 : Nat) (x1 : Int32) (x2 : Int32) (x3 : Int32) {S : jm_S} {H : Heap} {locs : List Loc} {ls : Array Slot}, fX8_goesOn_2 n h0 x1 x2 x3 S = some (rv, Sf) → jm_J G S H → va_S (jm_A G) s.heap H locs → jm_L ls 4 [(0, .inr (some h0)), (1, .inl x1), (2, .inl x2), (3, .inl x3)] → W p l e ({ frames := 2, cells := 0, slots := 0, locals := 54 } : Room) s m args below meth c H locs 0 0 (MQ below (jm_Q G (some (.int rv)) Sf) args s 0 0 (jm_A G)) (F0 m 2 ls []) := by
  intro n
  induction n with
  | zero =>
    intro h0 x1 x2 x3 S H locs ls hf
    rw [fX8_goesOn_2] at hf
    exact absurd hf (fun h => jm_no_ok h)
  | succ n ih =>
    intro h0 x1 x2 x3 S H locs ls hf hJ hS hl
    rw [fX8_goesOn_2] at hf
    refine jw_aload_n C dX8_goesOn_2 rfl (hl.at 0 rfl) ?_
    obtain ⟨v1, h1, hf⟩ := jm_rd_ok hf
    refine jw_gR (Cn := RX8) (T := TX8) (N := 29) C hJ h1 rfl inX8_goesOn_X8 (by decide) (jm_w C 1 rfl) (fun _ h => h) dX8_goesOn_3 ?_
    refine lv_iload_n C.1 C.2.1 dX8_goesOn_6 rfl (hl.at 1 rfl) ?_
    obtain ⟨v2, h2, hf⟩ := jm_rd_ok hf
    refine jw_iaload C hJ h2 dX8_goesOn_7 ?_
    refine lv_iload_n C.1 C.2.1 dX8_goesOn_8 rfl (hl.at 2 rfl) ?_
    refine lv_icmp_ge (tgt := 59) C.1 C.2.1 dX8_goesOn_9 (by decide) (fun hq3 => ?_) (fun hq3 => ?_)
    · replace hf := jm_ift hf hq3
      refine lv_iload_n C.1 C.2.1 dX8_goesOn_59 rfl (hl.at 3 rfl) ?_
      obtain ⟨rfl, rfl⟩ := jm_ret_ok hf
      exact jw_ri C hJ hS (Nat.le_refl _) (Nat.le_refl _) dX8_goesOn_60
    · replace hf := jm_iff hf hq3
      refine jw_aload_n C dX8_goesOn_12 rfl (hl.at 0 rfl) ?_
      obtain ⟨v4, h4, hf⟩ := jm_rd_ok hf
      refine jw_gR (Cn := RX8) (T := TX8) (N := 29) C hJ h4 rfl inX8_goesOn_X8 (by decide) (jm_w C 1 rfl) (fun _ h => h) dX8_goesOn_13 ?_
      refine lv_iload_n C.1 C.2.1 dX8_goesOn_16 rfl (hl.at 1 rfl) ?_
      obtain ⟨v5, h5, hf⟩ := jm_rd_ok hf
      refine jw_iaload C hJ h5 dX8_goesOn_17 ?_
      refine jw_aload_n C dX8_goesOn_18 rfl (hl.at 0 rfl) ?_
      obtain ⟨v6, h6, hf⟩ := jm_rd_ok hf
      refine jw_gR (Cn := RX8) (T := TX8) (N := 29) C hJ h6 rfl inX8_goesOn_X8 (by decide) (jm_w C 2 rfl) (fun _ h => h) dX8_goesOn_19 ?_
      refine lv_iload_n C.1 C.2.1 dX8_goesOn_22 rfl (hl.at 1 rfl) ?_
      obtain ⟨v7, h7, hf⟩ := jm_rd_ok hf
      refine jw_iaload C hJ h7 dX8_goesOn_23 ?_
      refine lv_icmp_ge (tgt := 59) C.1 C.2.1 dX8_goesOn_24 (by decide) (fun hq8 => ?_) (fun hq8 => ?_)
      · replace hf := jm_ift hf hq8
        refine lv_iload_n C.1 C.2.1 dX8_goesOn_59 rfl (hl.at 3 rfl) ?_
        obtain ⟨rfl, rfl⟩ := jm_ret_ok hf
        exact jw_ri C hJ hS (Nat.le_refl _) (Nat.le_refl _) dX8_goesOn_60
      · replace hf := jm_iff hf hq8
        refine jw_aload_n C dX8_goesOn_27 rfl (hl.at 0 rfl) ?_
        refine lv_iload_n C.1 C.2.1 dX8_goesOn_28 rfl (hl.at 1 rfl) ?_
        refine lv_bipush (v := 40) C.1 C.2.1 dX8_goesOn_29 (by decide) ?_
        refine lv_iload_n C.1 C.2.1 dX8_goesOn_31 rfl (hl.at 1 rfl) ?_
        refine lv_imul C.1 C.2.1 dX8_goesOn_32 ?_
        refine jw_aload_n C dX8_goesOn_33 rfl (hl.at 0 rfl) ?_
        obtain ⟨v9, h9, hf⟩ := jm_rd_ok hf
        refine jw_gR (Cn := RX8) (T := TX8) (N := 29) C hJ h9 rfl inX8_goesOn_X8 (by decide) (jm_w C 1 rfl) (fun _ h => h) dX8_goesOn_34 ?_
        refine lv_iload_n C.1 C.2.1 dX8_goesOn_37 rfl (hl.at 1 rfl) ?_
        obtain ⟨v10, h10, hf⟩ := jm_rd_ok hf
        refine jw_iaload C hJ h10 dX8_goesOn_38 ?_
        refine lv_iadd C.1 C.2.1 dX8_goesOn_39 ?_
        obtain ⟨a11, o11, hf⟩ := jm_rd_ok hf
        obtain ⟨v11, S11, h11, hf⟩ := jm_bd_ok hf
        refine jw_cV (q := (RX8, TX8, 29)) C hJ hS o11 rfl (cX8_applies_C l G a11 x1 ((40 * x1) + v10) h11) (cwV 2 C.2.2.2.2.1 gX8_goesOn_X8_applies rfl rfl rfl (by decide +kernel) ⟨Nat.le_of_ble_eq_true rfl, Nat.le_of_ble_eq_true rfl⟩) rfl hl.1 rfl (Nat.le_of_ble_eq_true rfl) dX8_goesOn_40 ⟨Nat.le_refl _, Nat.le_refl _⟩ (fun H locs hJ hS => ?_)
        refine jw_aload_n C dX8_goesOn_43 rfl (hl.at 0 rfl) ?_
        obtain ⟨v12, h12, hf⟩ := jm_rd_ok hf
        refine jw_gR (Cn := RX8) (T := TX8) (N := 29) C hJ h12 rfl inX8_goesOn_X8 (by decide) (jm_w C 1 rfl) (fun _ h => h) dX8_goesOn_44 ?_
        refine lv_iload_n C.1 C.2.1 dX8_goesOn_47 rfl (hl.at 1 rfl) ?_
        refine lv_dup2_11 C.1 C.2.1 dX8_goesOn_48 rfl (jm_catr _) ?_
        obtain ⟨v13, h13, hf⟩ := jm_rd_ok hf
        refine jw_iaload C hJ h13 dX8_goesOn_49 ?_
        refine lv_iconst (v := 1) C.1 C.2.1 dX8_goesOn_50 (by decide) ?_
        refine lv_iadd C.1 C.2.1 dX8_goesOn_51 ?_
        obtain ⟨S14, h14, hf⟩ := jm_wr_ok hf
        refine jw_iastore C hJ hS h14 dX8_goesOn_52 (fun H locs hJ hS => ?_)
        refine jw_iinc (v := x3 + 1) C 3 dX8_goesOn_53 hl rfl (by rfl) (by decide) rfl (fun ls hl => ?_)
        refine lv_goto (tgt := 2) C.1 C.2.1 dX8_goesOn_56 (by decide) ?_
        exact ih h0 x1 x2 (x3 + 1) hf hJ hS (hl.sub [1, 2, 3, 0] rfl)
theorem moX8_goesOn (h0 : Nat) (x1 : Int32) (x2 : Int32) : jm_Mo (fX8_goesOn h0 x1 x2) := by
  unfold fX8_goesOn
  exact moX8_goesOn_2 _ _ _ _ _
set_option maxHeartbeats 4000000 in
set_option maxRecDepth 100000 in
theorem kX8_goesOn {rv : Int32} {Sf : jm_S} (C : jm_C G cX8_goesOn 4 RX8 wsX8_goesOn ((some .int)) p s m args meth c) : ∀ (h0 : Nat) (x1 : Int32) (x2 : Int32) {S : jm_S} {H : Heap} {locs : List Loc} {ls : Array Slot}, fX8_goesOn h0 x1 x2 S = some (rv, Sf) → jm_J G S H → va_S (jm_A G) s.heap H locs → jm_L ls 4 [(0, .inr (some h0)), (1, .inl x1), (2, .inl x2)] → W p l e ({ frames := 2, cells := 0, slots := 0, locals := 54 } : Room) s m args below meth c H locs 0 0 (MQ below (jm_Q G (some (.int rv)) Sf) args s 0 0 (jm_A G)) (F0 m 0 ls []) := by
  intro h0 x1 x2 S H locs ls hf hJ hS hl
  unfold fX8_goesOn at hf
  refine lv_iconst (v := 0) C.1 C.2.1 dX8_goesOn_0 (by decide) ?_
  refine jw_istore_n C dX8_goesOn_1 rfl hl (by decide) rfl (fun ls hl => ?_)
  exact kX8_goesOn_2 C 4096 h0 x1 x2 0 hf hJ hS (hl.sub [1, 2, 3, 0] rfl)
set_option maxHeartbeats 4000000 in
set_option maxRecDepth 100000 in
theorem cX8_goesOn_C (l : Launch) (G : jm_G) (h0 : Nat) (x1 : Int32) (x2 : Int32) {S Sf : jm_S} {rv : Int32} (hf : fX8_goesOn h0 x1 x2 S = some (rv, Sf)) : Met l yX8_goesOn wsX8_goesOn ({ frames := 2, cells := 0, slots := 0, locals := 54 } : Room) (jm_Pc G S [.ref h0, .int x1, .int x2]) (jm_Q G (some (.int rv)) Sf) 0 0 (jm_A G) := by
  refine Met.ofW (cc := cX8_goesOn) (maxL := 4) (ret := (some .int)) (by decide) rfl ?_
  intro p e s m args below meth c s₁ B hml hv
  obtain ⟨rfl, hJ, hX⟩ := hv
  have C : jm_C G cX8_goesOn 4 RX8 wsX8_goesOn ((some .int)) p s m _ meth c := ⟨B.exec, B.bytes, hml, findClass_of_methodNamed B.named, atoms_spec (ws := wsX8_goesOn) B.pre, B.returns, B.notSynchronized, hX⟩
  obtain ⟨ls, he, hl⟩ := jm_entry m [.inr (some h0), .inl x1, .inl x2] (n := 4) (Nat.le_of_ble_eq_true rfl)
  have he : entryFrame m ([.ref h0, .int x1, .int x2] : List Value).toArray 4 = F0 m 0 ls [] := he
  rw [he]
  exact kX8_goesOn C h0 x1 x2 hf hJ va_S.rf (hl.sub [0, 1, 2] rfl)
/-! CoordinationServiceModel.actives -/
def fX8_actives_4 : Nat → Nat → Int32 → Int32 → jm_P Int32
  | 0, _, _, _ => jm_no
  | n + 1, h0, x1, x2 => jm_rd (jm_gI (some h0) 9 0) fun v1 => (if v1 ≤ x2 then jm_ret x1 else jm_rd (jm_gR (some h0) 9 2) fun v3 => jm_rd (jm_gi v3 1 x2) fun v4 => (if v4 = 0 then fX8_actives_4 n h0 (x1 + 0) (x2 + 1) else fX8_actives_4 n h0 (x1 + 1) (x2 + 1)))
def fX8_actives (h0 : Nat) : jm_P Int32 := fX8_actives_4 4096 h0 0 0
theorem inX8_actives_X8 : ∀ w ∈ wsX80, w ∈ wsX8_actives := fun _ h => List.mem_cons_of_mem _ (List.mem_append_right _ h)
theorem moX8_actives_4 : ∀ (n : Nat) (h0 : Nat) (x1 : Int32) (x2 : Int32), jm_Mo (fX8_actives_4 n h0 x1 x2) := by
  intro n
  induction n with
  | zero =>
    intro h0 x1 x2
    rw [fX8_actives_4]
    exact jm_Mo_no
  | succ n ih =>
    intro h0 x1 x2
    rw [fX8_actives_4]
    exact jm_Mo_rd (fun _ => jm_Mo_if (jm_Mo_ret _) (jm_Mo_rd (fun _ => jm_Mo_rd (fun _ => jm_Mo_if (ih _ _ _) (ih _ _ _)))))
set_option maxHeartbeats 4000000 in
set_option maxRecDepth 100000 in
theorem kX8_actives_4 {rv : Int32} {Sf : jm_S} (C : jm_C G cX8_actives 3 RX8 wsX8_actives ((some .int)) p s m args meth c) : ∀ (n : Nat) (h0 : Nat) (x1 : Int32) (x2 : Int32) {S : jm_S} {H : Heap} {locs : List Loc} {ls : Array Slot}, fX8_actives_4 n h0 x1 x2 S = some (rv, Sf) → jm_J G S H → va_S (jm_A G) s.heap H locs → jm_L ls 3 [(0, .inr (some h0)), (1, .inl x1), (2, .inl x2)] → W p l e ({ frames := 0, cells := 0, slots := 0, locals := 0 } : Room) s m args below meth c H locs 0 0 (MQ below (jm_Q G (some (.int rv)) Sf) args s 0 0 (jm_A G)) (F0 m 4 ls []) := by
  intro n
  induction n with
  | zero =>
    intro h0 x1 x2 S H locs ls hf
    rw [fX8_actives_4] at hf
    exact absurd hf (fun h => jm_no_ok h)
  | succ n ih =>
    intro h0 x1 x2 S H locs ls hf hJ hS hl
    rw [fX8_actives_4] at hf
    refine lv_iload_n C.1 C.2.1 dX8_actives_4 rfl (hl.at 2 rfl) ?_
    refine jw_aload_n C dX8_actives_5 rfl (hl.at 0 rfl) ?_
    obtain ⟨v1, h1, hf⟩ := jm_rd_ok hf
    refine jw_gI (Cn := RX8) (T := TX8) (N := 29) C hJ h1 rfl inX8_actives_X8 (by decide) (jm_w C 1 rfl) (fun _ h => h) dX8_actives_6 ?_
    refine lv_icmp_ge (tgt := 35) C.1 C.2.1 dX8_actives_9 (by decide) (fun hq2 => ?_) (fun hq2 => ?_)
    · replace hf := jm_ift hf hq2
      refine lv_iload_n C.1 C.2.1 dX8_actives_35 rfl (hl.at 1 rfl) ?_
      obtain ⟨rfl, rfl⟩ := jm_ret_ok hf
      exact jw_ri C hJ hS (Nat.le_refl _) (Nat.le_refl _) dX8_actives_36
    · replace hf := jm_iff hf hq2
      refine lv_iload_n C.1 C.2.1 dX8_actives_12 rfl (hl.at 1 rfl) ?_
      refine jw_aload_n C dX8_actives_13 rfl (hl.at 0 rfl) ?_
      obtain ⟨v3, h3, hf⟩ := jm_rd_ok hf
      refine jw_gR (Cn := RX8) (T := TX8) (N := 29) C hJ h3 rfl inX8_actives_X8 (by decide) (jm_w C 2 rfl) (fun _ h => h) dX8_actives_14 ?_
      refine lv_iload_n C.1 C.2.1 dX8_actives_17 rfl (hl.at 2 rfl) ?_
      obtain ⟨v4, h4, hf⟩ := jm_rd_ok hf
      refine jw_zaload C hJ h4 dX8_actives_18 ?_
      refine lv_if_eq (tgt := 26) C.1 C.2.1 dX8_actives_19 (by decide) (fun hq5 => ?_) (fun hq5 => ?_)
      · replace hf := jm_ift hf hq5
        refine lv_iconst (v := 0) C.1 C.2.1 dX8_actives_26 (by decide) ?_
        refine lv_iadd C.1 C.2.1 dX8_actives_27 ?_
        refine jw_istore_n C dX8_actives_28 rfl hl (by decide) rfl (fun ls hl => ?_)
        refine jw_iinc (v := x2 + 1) C 2 dX8_actives_29 hl rfl (by rfl) (by decide) rfl (fun ls hl => ?_)
        refine lv_goto (tgt := 4) C.1 C.2.1 dX8_actives_32 (by decide) ?_
        exact ih h0 (x1 + 0) (x2 + 1) hf hJ hS (hl.sub [2, 1, 0] rfl)
      · replace hf := jm_iff hf hq5
        refine lv_iconst (v := 1) C.1 C.2.1 dX8_actives_22 (by decide) ?_
        refine lv_goto (tgt := 27) C.1 C.2.1 dX8_actives_23 (by decide) ?_
        refine lv_iadd C.1 C.2.1 dX8_actives_27 ?_
        refine jw_istore_n C dX8_actives_28 rfl hl (by decide) rfl (fun ls hl => ?_)
        refine jw_iinc (v := x2 + 1) C 2 dX8_actives_29 hl rfl (by rfl) (by decide) rfl (fun ls hl => ?_)
        refine lv_goto (tgt := 4) C.1 C.2.1 dX8_actives_32 (by decide) ?_
        exact ih h0 (x1 + 1) (x2 + 1) hf hJ hS (hl.sub [2, 1, 0] rfl)
theorem moX8_actives (h0 : Nat) : jm_Mo (fX8_actives h0) := by
  unfold fX8_actives
  exact moX8_actives_4 _ _ _ _
set_option maxHeartbeats 4000000 in
set_option maxRecDepth 100000 in
theorem kX8_actives {rv : Int32} {Sf : jm_S} (C : jm_C G cX8_actives 3 RX8 wsX8_actives ((some .int)) p s m args meth c) : ∀ (h0 : Nat) {S : jm_S} {H : Heap} {locs : List Loc} {ls : Array Slot}, fX8_actives h0 S = some (rv, Sf) → jm_J G S H → va_S (jm_A G) s.heap H locs → jm_L ls 3 [(0, .inr (some h0))] → W p l e ({ frames := 0, cells := 0, slots := 0, locals := 0 } : Room) s m args below meth c H locs 0 0 (MQ below (jm_Q G (some (.int rv)) Sf) args s 0 0 (jm_A G)) (F0 m 0 ls []) := by
  intro h0 S H locs ls hf hJ hS hl
  unfold fX8_actives at hf
  refine lv_iconst (v := 0) C.1 C.2.1 dX8_actives_0 (by decide) ?_
  refine jw_istore_n C dX8_actives_1 rfl hl (by decide) rfl (fun ls hl => ?_)
  refine lv_iconst (v := 0) C.1 C.2.1 dX8_actives_2 (by decide) ?_
  refine jw_istore_n C dX8_actives_3 rfl hl (by decide) rfl (fun ls hl => ?_)
  exact kX8_actives_4 C 4096 h0 0 0 hf hJ hS (hl.sub [2, 1, 0] rfl)
set_option maxHeartbeats 4000000 in
set_option maxRecDepth 100000 in
theorem cX8_actives_C (l : Launch) (G : jm_G) (h0 : Nat) {S Sf : jm_S} {rv : Int32} (hf : fX8_actives h0 S = some (rv, Sf)) : Met l yX8_actives wsX8_actives ({ frames := 0, cells := 0, slots := 0, locals := 0 } : Room) (jm_Pc G S [.ref h0]) (jm_Q G (some (.int rv)) Sf) 0 0 (jm_A G) := by
  refine Met.ofW (cc := cX8_actives) (maxL := 3) (ret := (some .int)) (by decide) rfl ?_
  intro p e s m args below meth c s₁ B hml hv
  obtain ⟨rfl, hJ, hX⟩ := hv
  have C : jm_C G cX8_actives 3 RX8 wsX8_actives ((some .int)) p s m _ meth c := ⟨B.exec, B.bytes, hml, findClass_of_methodNamed B.named, atoms_spec (ws := wsX8_actives) B.pre, B.returns, B.notSynchronized, hX⟩
  obtain ⟨ls, he, hl⟩ := jm_entry m [.inr (some h0)] (n := 3) (Nat.le_of_ble_eq_true rfl)
  have he : entryFrame m ([.ref h0] : List Value).toArray 3 = F0 m 0 ls [] := he
  rw [he]
  exact kX8_actives C h0 hf hJ va_S.rf (hl.sub [0] rfl)
/-! CoordinationServiceModel.ups -/
def fX8_ups_4 : Nat → Nat → Int32 → Int32 → jm_P Int32
  | 0, _, _, _ => jm_no
  | n + 1, h0, x1, x2 => jm_rd (jm_gI (some h0) 9 0) fun v1 => (if v1 ≤ x2 then jm_ret x1 else jm_rd (jm_gR (some h0) 9 1) fun v3 => jm_rd (jm_gi v3 1 x2) fun v4 => (if v4 = 0 then fX8_ups_4 n h0 (x1 + 0) (x2 + 1) else fX8_ups_4 n h0 (x1 + 1) (x2 + 1)))
def fX8_ups (h0 : Nat) : jm_P Int32 := fX8_ups_4 4096 h0 0 0
theorem inX8_ups_X8 : ∀ w ∈ wsX80, w ∈ wsX8_ups := fun _ h => List.mem_cons_of_mem _ (List.mem_append_right _ h)
theorem moX8_ups_4 : ∀ (n : Nat) (h0 : Nat) (x1 : Int32) (x2 : Int32), jm_Mo (fX8_ups_4 n h0 x1 x2) := by
  intro n
  induction n with
  | zero =>
    intro h0 x1 x2
    rw [fX8_ups_4]
    exact jm_Mo_no
  | succ n ih =>
    intro h0 x1 x2
    rw [fX8_ups_4]
    exact jm_Mo_rd (fun _ => jm_Mo_if (jm_Mo_ret _) (jm_Mo_rd (fun _ => jm_Mo_rd (fun _ => jm_Mo_if (ih _ _ _) (ih _ _ _)))))
set_option maxHeartbeats 4000000 in
set_option maxRecDepth 100000 in
theorem kX8_ups_4 {rv : Int32} {Sf : jm_S} (C : jm_C G cX8_ups 3 RX8 wsX8_ups ((some .int)) p s m args meth c) : ∀ (n : Nat) (h0 : Nat) (x1 : Int32) (x2 : Int32) {S : jm_S} {H : Heap} {locs : List Loc} {ls : Array Slot}, fX8_ups_4 n h0 x1 x2 S = some (rv, Sf) → jm_J G S H → va_S (jm_A G) s.heap H locs → jm_L ls 3 [(0, .inr (some h0)), (1, .inl x1), (2, .inl x2)] → W p l e ({ frames := 0, cells := 0, slots := 0, locals := 0 } : Room) s m args below meth c H locs 0 0 (MQ below (jm_Q G (some (.int rv)) Sf) args s 0 0 (jm_A G)) (F0 m 4 ls []) := by
  intro n
  induction n with
  | zero =>
    intro h0 x1 x2 S H locs ls hf
    rw [fX8_ups_4] at hf
    exact absurd hf (fun h => jm_no_ok h)
  | succ n ih =>
    intro h0 x1 x2 S H locs ls hf hJ hS hl
    rw [fX8_ups_4] at hf
    refine lv_iload_n C.1 C.2.1 dX8_ups_4 rfl (hl.at 2 rfl) ?_
    refine jw_aload_n C dX8_ups_5 rfl (hl.at 0 rfl) ?_
    obtain ⟨v1, h1, hf⟩ := jm_rd_ok hf
    refine jw_gI (Cn := RX8) (T := TX8) (N := 29) C hJ h1 rfl inX8_ups_X8 (by decide) (jm_w C 1 rfl) (fun _ h => h) dX8_ups_6 ?_
    refine lv_icmp_ge (tgt := 35) C.1 C.2.1 dX8_ups_9 (by decide) (fun hq2 => ?_) (fun hq2 => ?_)
    · replace hf := jm_ift hf hq2
      refine lv_iload_n C.1 C.2.1 dX8_ups_35 rfl (hl.at 1 rfl) ?_
      obtain ⟨rfl, rfl⟩ := jm_ret_ok hf
      exact jw_ri C hJ hS (Nat.le_refl _) (Nat.le_refl _) dX8_ups_36
    · replace hf := jm_iff hf hq2
      refine lv_iload_n C.1 C.2.1 dX8_ups_12 rfl (hl.at 1 rfl) ?_
      refine jw_aload_n C dX8_ups_13 rfl (hl.at 0 rfl) ?_
      obtain ⟨v3, h3, hf⟩ := jm_rd_ok hf
      refine jw_gR (Cn := RX8) (T := TX8) (N := 29) C hJ h3 rfl inX8_ups_X8 (by decide) (jm_w C 2 rfl) (fun _ h => h) dX8_ups_14 ?_
      refine lv_iload_n C.1 C.2.1 dX8_ups_17 rfl (hl.at 2 rfl) ?_
      obtain ⟨v4, h4, hf⟩ := jm_rd_ok hf
      refine jw_zaload C hJ h4 dX8_ups_18 ?_
      refine lv_if_eq (tgt := 26) C.1 C.2.1 dX8_ups_19 (by decide) (fun hq5 => ?_) (fun hq5 => ?_)
      · replace hf := jm_ift hf hq5
        refine lv_iconst (v := 0) C.1 C.2.1 dX8_ups_26 (by decide) ?_
        refine lv_iadd C.1 C.2.1 dX8_ups_27 ?_
        refine jw_istore_n C dX8_ups_28 rfl hl (by decide) rfl (fun ls hl => ?_)
        refine jw_iinc (v := x2 + 1) C 2 dX8_ups_29 hl rfl (by rfl) (by decide) rfl (fun ls hl => ?_)
        refine lv_goto (tgt := 4) C.1 C.2.1 dX8_ups_32 (by decide) ?_
        exact ih h0 (x1 + 0) (x2 + 1) hf hJ hS (hl.sub [2, 1, 0] rfl)
      · replace hf := jm_iff hf hq5
        refine lv_iconst (v := 1) C.1 C.2.1 dX8_ups_22 (by decide) ?_
        refine lv_goto (tgt := 27) C.1 C.2.1 dX8_ups_23 (by decide) ?_
        refine lv_iadd C.1 C.2.1 dX8_ups_27 ?_
        refine jw_istore_n C dX8_ups_28 rfl hl (by decide) rfl (fun ls hl => ?_)
        refine jw_iinc (v := x2 + 1) C 2 dX8_ups_29 hl rfl (by rfl) (by decide) rfl (fun ls hl => ?_)
        refine lv_goto (tgt := 4) C.1 C.2.1 dX8_ups_32 (by decide) ?_
        exact ih h0 (x1 + 1) (x2 + 1) hf hJ hS (hl.sub [2, 1, 0] rfl)
theorem moX8_ups (h0 : Nat) : jm_Mo (fX8_ups h0) := by
  unfold fX8_ups
  exact moX8_ups_4 _ _ _ _
set_option maxHeartbeats 4000000 in
set_option maxRecDepth 100000 in
theorem kX8_ups {rv : Int32} {Sf : jm_S} (C : jm_C G cX8_ups 3 RX8 wsX8_ups ((some .int)) p s m args meth c) : ∀ (h0 : Nat) {S : jm_S} {H : Heap} {locs : List Loc} {ls : Array Slot}, fX8_ups h0 S = some (rv, Sf) → jm_J G S H → va_S (jm_A G) s.heap H locs → jm_L ls 3 [(0, .inr (some h0))] → W p l e ({ frames := 0, cells := 0, slots := 0, locals := 0 } : Room) s m args below meth c H locs 0 0 (MQ below (jm_Q G (some (.int rv)) Sf) args s 0 0 (jm_A G)) (F0 m 0 ls []) := by
  intro h0 S H locs ls hf hJ hS hl
  unfold fX8_ups at hf
  refine lv_iconst (v := 0) C.1 C.2.1 dX8_ups_0 (by decide) ?_
  refine jw_istore_n C dX8_ups_1 rfl hl (by decide) rfl (fun ls hl => ?_)
  refine lv_iconst (v := 0) C.1 C.2.1 dX8_ups_2 (by decide) ?_
  refine jw_istore_n C dX8_ups_3 rfl hl (by decide) rfl (fun ls hl => ?_)
  exact kX8_ups_4 C 4096 h0 0 0 hf hJ hS (hl.sub [2, 1, 0] rfl)
set_option maxHeartbeats 4000000 in
set_option maxRecDepth 100000 in
theorem cX8_ups_C (l : Launch) (G : jm_G) (h0 : Nat) {S Sf : jm_S} {rv : Int32} (hf : fX8_ups h0 S = some (rv, Sf)) : Met l yX8_ups wsX8_ups ({ frames := 0, cells := 0, slots := 0, locals := 0 } : Room) (jm_Pc G S [.ref h0]) (jm_Q G (some (.int rv)) Sf) 0 0 (jm_A G) := by
  refine Met.ofW (cc := cX8_ups) (maxL := 3) (ret := (some .int)) (by decide) rfl ?_
  intro p e s m args below meth c s₁ B hml hv
  obtain ⟨rfl, hJ, hX⟩ := hv
  have C : jm_C G cX8_ups 3 RX8 wsX8_ups ((some .int)) p s m _ meth c := ⟨B.exec, B.bytes, hml, findClass_of_methodNamed B.named, atoms_spec (ws := wsX8_ups) B.pre, B.returns, B.notSynchronized, hX⟩
  obtain ⟨ls, he, hl⟩ := jm_entry m [.inr (some h0)] (n := 3) (Nat.le_of_ble_eq_true rfl)
  have he : entryFrame m ([.ref h0] : List Value).toArray 3 = F0 m 0 ls [] := he
  rw [he]
  exact kX8_ups C h0 hf hJ va_S.rf (hl.sub [0] rfl)
/-! CoordinationServiceModel.commits -/
def fX8_commits_67 (k2 : Nat → Int32 → jm_P Unit) (h0 : Nat) (y0 : Int32) : jm_P Unit := jm_rd (jm_gI (some h0) 9 8) fun v9 => (if y0 = 0 then jm_wr (jm_p (some h0) 9 8 (.inl (v9 + 0))) <| k2 h0 y0 else jm_wr (jm_p (some h0) 9 8 (.inl (v9 + 1))) <| k2 h0 y0)
def fX8_commits_10 (k2 : Nat → Int32 → jm_P Unit) : Nat → Nat → Int32 → Int32 → jm_P Unit
  | 0, _, _, _ => jm_no
  | n + 1, h0, x2, x3 => jm_rd (jm_gI (some h0) 9 0) fun v5 => (if v5 ≤ x3 then jm_rd (jm_o (some h0) 9) fun a7 => jm_bd (fX8_quorum a7) fun v7 => (if x2 < v7 then fX8_commits_67 k2 h0 0 else fX8_commits_67 k2 h0 1) else jm_rd (jm_gR (some h0) 9 2) fun v13 => jm_rd (jm_gi v13 1 x3) fun v14 => (if v14 = 0 then fX8_commits_10 k2 n h0 (x2 + 0) (x3 + 1) else jm_rd (jm_gR (some h0) 9 9) fun v16 => jm_rd (jm_gi v16 0 x3) fun v17 => jm_rd (jm_gI (some h0) 9 8) fun v18 => (if v17 ≤ v18 then fX8_commits_10 k2 n h0 (x2 + 0) (x3 + 1) else fX8_commits_10 k2 n h0 (x2 + 1) (x3 + 1))))
def fX8_commits_2 : Nat → Nat → Int32 → jm_P Unit
  | 0, _, _ => jm_no
  | n + 1, h0, x1 => (if x1 = 0 then jm_rd (jm_gI (some h0) 9 5) fun v2 => jm_rd (jm_gI (some h0) 9 8) fun v3 => jm_rd (jm_o (some h0) 9) fun a4 => jm_bd (fX8_goesOn a4 v2 v3) fun v4 => jm_ret () else fX8_commits_10 (fun h0 x1 => fX8_commits_2 n h0 x1) 4096 h0 0 0)
def fX8_commits (h0 : Nat) : jm_P Unit := fX8_commits_2 4096 h0 1
theorem inX8_commits_X8 : ∀ w ∈ wsX80, w ∈ wsX8_commits := fun _ h => List.mem_cons_of_mem _ (List.mem_append_right _ h)
theorem moX8_commits_67 {k2 : Nat → Int32 → jm_P Unit} (hm2 : ∀ (h0 : Nat) (x1 : Int32), jm_Mo (k2 h0 x1)) (h0 : Nat) (y0 : Int32) : jm_Mo (fX8_commits_67 k2 h0 y0) := by
  unfold fX8_commits_67
  exact jm_Mo_rd (fun _ => jm_Mo_if (jm_Mo_wr jm_p_st (hm2 _ _)) (jm_Mo_wr jm_p_st (hm2 _ _)))
set_option maxHeartbeats 4000000 in
set_option maxRecDepth 100000 in
theorem kX8_commits_67 {rv : Unit} {Sf : jm_S} (C : jm_C G cX8_commits 4 RX8 wsX8_commits (none) p s m args meth c) {k2 : Nat → Int32 → jm_P Unit} (hk2 : ∀ (h0 : Nat) (x1 : Int32) (S : jm_S) (H : Heap) (locs : List Loc) (ls : Array Slot), k2 h0 x1 S = some (rv, Sf) → jm_J G S H → va_S (jm_A G) s.heap H locs → jm_L ls 4 [(0, .inr (some h0)), (1, .inl x1)] → W p l e ({ frames := 3, cells := 0, slots := 0, locals := 77 } : Room) s m args below meth c H locs 0 0 (MQ below (jm_Q G (none) Sf) args s 0 0 (jm_A G)) (F0 m 2 ls [])) : ∀ (h0 : Nat) (y0 : Int32) {S : jm_S} {H : Heap} {locs : List Loc} {ls : Array Slot}, fX8_commits_67 k2 h0 y0 S = some (rv, Sf) → jm_J G S H → va_S (jm_A G) s.heap H locs → jm_L ls 4 [(0, .inr (some h0))] → W p l e ({ frames := 3, cells := 0, slots := 0, locals := 77 } : Room) s m args below meth c H locs 0 0 (MQ below (jm_Q G (none) Sf) args s 0 0 (jm_A G)) (F0 m 67 ls [.int y0]) := by
  intro h0 y0 S H locs ls hf hJ hS hl
  unfold fX8_commits_67 at hf
  refine jw_istore_n C dX8_commits_67 rfl hl (by decide) rfl (fun ls hl => ?_)
  refine jw_aload_n C dX8_commits_68 rfl (hl.at 1 rfl) ?_
  refine lv_dup C.1 C.2.1 dX8_commits_69 (jm_catr _) ?_
  obtain ⟨v9, h9, hf⟩ := jm_rd_ok hf
  refine jw_gI (Cn := RX8) (T := TX8) (N := 29) C hJ h9 rfl inX8_commits_X8 (by decide) (jm_w C 4 rfl) (fun _ h => h) dX8_commits_70 ?_
  refine lv_iload_n C.1 C.2.1 dX8_commits_73 rfl (hl.at 0 rfl) ?_
  refine lv_if_eq (tgt := 81) C.1 C.2.1 dX8_commits_74 (by decide) (fun hq10 => ?_) (fun hq10 => ?_)
  · replace hf := jm_ift hf hq10
    refine lv_iconst (v := 0) C.1 C.2.1 dX8_commits_81 (by decide) ?_
    refine lv_iadd C.1 C.2.1 dX8_commits_82 ?_
    obtain ⟨S11, h11, hf⟩ := jm_wr_ok hf
    refine jw_p (x := .inl (v9 + 0)) (ty := .int) (Cn := RX8) (T := TX8) (N := 29) C hJ hS h11 rfl inX8_commits_X8 tyX8 tyX8_ok nmX8 (by decide) (jm_w C 4 rfl) (fun _ h => h) rfl (by decide +kernel) rfl rfl dX8_commits_83 (fun H locs hJ hS => ?_)
    refine lv_goto (tgt := 2) C.1 C.2.1 dX8_commits_86 (by decide) ?_
    exact hk2 h0 y0 _ _ _ _ hf hJ hS (hl.sub [1, 0] rfl)
  · replace hf := jm_iff hf hq10
    refine lv_iconst (v := 1) C.1 C.2.1 dX8_commits_77 (by decide) ?_
    refine lv_goto (tgt := 82) C.1 C.2.1 dX8_commits_78 (by decide) ?_
    refine lv_iadd C.1 C.2.1 dX8_commits_82 ?_
    obtain ⟨S12, h12, hf⟩ := jm_wr_ok hf
    refine jw_p (x := .inl (v9 + 1)) (ty := .int) (Cn := RX8) (T := TX8) (N := 29) C hJ hS h12 rfl inX8_commits_X8 tyX8 tyX8_ok nmX8 (by decide) (jm_w C 4 rfl) (fun _ h => h) rfl (by decide +kernel) rfl rfl dX8_commits_83 (fun H locs hJ hS => ?_)
    refine lv_goto (tgt := 2) C.1 C.2.1 dX8_commits_86 (by decide) ?_
    exact hk2 h0 y0 _ _ _ _ hf hJ hS (hl.sub [1, 0] rfl)
theorem moX8_commits_10 {k2 : Nat → Int32 → jm_P Unit} (hm2 : ∀ (h0 : Nat) (x1 : Int32), jm_Mo (k2 h0 x1)) : ∀ (n : Nat) (h0 : Nat) (x2 : Int32) (x3 : Int32), jm_Mo (fX8_commits_10 k2 n h0 x2 x3) := by
  intro n
  induction n with
  | zero =>
    intro h0 x2 x3
    rw [fX8_commits_10]
    exact jm_Mo_no
  | succ n ih =>
    intro h0 x2 x3
    rw [fX8_commits_10]
    exact jm_Mo_rd (fun _ => jm_Mo_if (jm_Mo_rd (fun _ => jm_Mo_bd (moX8_quorum _) (fun _ => jm_Mo_if (moX8_commits_67 hm2 _ _) (moX8_commits_67 hm2 _ _)))) (jm_Mo_rd (fun _ => jm_Mo_rd (fun _ => jm_Mo_if (ih _ _ _) (jm_Mo_rd (fun _ => jm_Mo_rd (fun _ => jm_Mo_rd (fun _ => jm_Mo_if (ih _ _ _) (ih _ _ _)))))))))
set_option maxHeartbeats 4000000 in
set_option maxRecDepth 100000 in
theorem kX8_commits_10 {rv : Unit} {Sf : jm_S} (C : jm_C G cX8_commits 4 RX8 wsX8_commits (none) p s m args meth c) {k2 : Nat → Int32 → jm_P Unit} (hk2 : ∀ (h0 : Nat) (x1 : Int32) (S : jm_S) (H : Heap) (locs : List Loc) (ls : Array Slot), k2 h0 x1 S = some (rv, Sf) → jm_J G S H → va_S (jm_A G) s.heap H locs → jm_L ls 4 [(0, .inr (some h0)), (1, .inl x1)] → W p l e ({ frames := 3, cells := 0, slots := 0, locals := 77 } : Room) s m args below meth c H locs 0 0 (MQ below (jm_Q G (none) Sf) args s 0 0 (jm_A G)) (F0 m 2 ls [])) : ∀ (n : Nat) (h0 : Nat) (x2 : Int32) (x3 : Int32) {S : jm_S} {H : Heap} {locs : List Loc} {ls : Array Slot}, fX8_commits_10 k2 n h0 x2 x3 S = some (rv, Sf) → jm_J G S H → va_S (jm_A G) s.heap H locs → jm_L ls 4 [(0, .inr (some h0)), (2, .inl x2), (3, .inl x3)] → W p l e ({ frames := 3, cells := 0, slots := 0, locals := 77 } : Room) s m args below meth c H locs 0 0 (MQ below (jm_Q G (none) Sf) args s 0 0 (jm_A G)) (F0 m 10 ls []) := by
  intro n
  induction n with
  | zero =>
    intro h0 x2 x3 S H locs ls hf
    rw [fX8_commits_10] at hf
    exact absurd hf (fun h => jm_no_ok h)
  | succ n ih =>
    intro h0 x2 x3 S H locs ls hf hJ hS hl
    rw [fX8_commits_10] at hf
    refine lv_iload_n C.1 C.2.1 dX8_commits_10 rfl (hl.at 2 rfl) ?_
    refine jw_aload_n C dX8_commits_11 rfl (hl.at 0 rfl) ?_
    obtain ⟨v5, h5, hf⟩ := jm_rd_ok hf
    refine jw_gI (Cn := RX8) (T := TX8) (N := 29) C hJ h5 rfl inX8_commits_X8 (by decide) (jm_w C 1 rfl) (fun _ h => h) dX8_commits_12 ?_
    refine lv_icmp_ge (tgt := 54) C.1 C.2.1 dX8_commits_15 (by decide) (fun hq6 => ?_) (fun hq6 => ?_)
    · replace hf := jm_ift hf hq6
      refine lv_iload_n C.1 C.2.1 dX8_commits_54 rfl (hl.at 1 rfl) ?_
      refine jw_aload_n C dX8_commits_55 rfl (hl.at 0 rfl) ?_
      obtain ⟨a7, o7, hf⟩ := jm_rd_ok hf
      obtain ⟨v7, S7, h7, hf⟩ := jm_bd_ok hf
      refine jw_cV (q := (RX8, TX8, 29)) C hJ hS o7 rfl (cX8_quorum_C l G a7 h7) (cwV 0 C.2.2.2.2.1 gX8_commits_X8_quorum rfl rfl rfl (by decide +kernel) ⟨Nat.le_of_ble_eq_true rfl, Nat.le_of_ble_eq_true rfl⟩) rfl hl.1 rfl (Nat.le_of_ble_eq_true rfl) dX8_commits_56 ⟨Nat.le_refl _, Nat.le_refl _⟩ (fun H locs hJ hS => ?_)
      refine lv_icmp_lt (tgt := 66) C.1 C.2.1 dX8_commits_59 (by decide) (fun hq8 => ?_) (fun hq8 => ?_)
      · replace hf := jm_ift hf hq8
        refine lv_iconst (v := 0) C.1 C.2.1 dX8_commits_66 (by decide) ?_
        exact kX8_commits_67 C hk2 h0 0 hf hJ hS (hl.sub [0] rfl)
      · replace hf := jm_iff hf hq8
        refine lv_iconst (v := 1) C.1 C.2.1 dX8_commits_62 (by decide) ?_
        refine lv_goto (tgt := 67) C.1 C.2.1 dX8_commits_63 (by decide) ?_
        exact kX8_commits_67 C hk2 h0 1 hf hJ hS (hl.sub [0] rfl)
    · replace hf := jm_iff hf hq6
      refine lv_iload_n C.1 C.2.1 dX8_commits_18 rfl (hl.at 1 rfl) ?_
      refine jw_aload_n C dX8_commits_19 rfl (hl.at 0 rfl) ?_
      obtain ⟨v13, h13, hf⟩ := jm_rd_ok hf
      refine jw_gR (Cn := RX8) (T := TX8) (N := 29) C hJ h13 rfl inX8_commits_X8 (by decide) (jm_w C 2 rfl) (fun _ h => h) dX8_commits_20 ?_
      refine lv_iload_n C.1 C.2.1 dX8_commits_23 rfl (hl.at 2 rfl) ?_
      obtain ⟨v14, h14, hf⟩ := jm_rd_ok hf
      refine jw_zaload C hJ h14 dX8_commits_24 ?_
      refine lv_if_eq (tgt := 45) C.1 C.2.1 dX8_commits_25 (by decide) (fun hq15 => ?_) (fun hq15 => ?_)
      · replace hf := jm_ift hf hq15
        refine lv_iconst (v := 0) C.1 C.2.1 dX8_commits_45 (by decide) ?_
        refine lv_iadd C.1 C.2.1 dX8_commits_46 ?_
        refine jw_istore_n C dX8_commits_47 rfl hl (by decide) rfl (fun ls hl => ?_)
        refine jw_iinc (v := x3 + 1) C 2 dX8_commits_48 hl rfl (by rfl) (by decide) rfl (fun ls hl => ?_)
        refine lv_goto (tgt := 10) C.1 C.2.1 dX8_commits_51 (by decide) ?_
        exact ih h0 (x2 + 0) (x3 + 1) hf hJ hS (hl.sub [2, 1, 0] rfl)
      · replace hf := jm_iff hf hq15
        refine jw_aload_n C dX8_commits_28 rfl (hl.at 0 rfl) ?_
        obtain ⟨v16, h16, hf⟩ := jm_rd_ok hf
        refine jw_gR (Cn := RX8) (T := TX8) (N := 29) C hJ h16 rfl inX8_commits_X8 (by decide) (jm_w C 3 rfl) (fun _ h => h) dX8_commits_29 ?_
        refine lv_iload_n C.1 C.2.1 dX8_commits_32 rfl (hl.at 2 rfl) ?_
        obtain ⟨v17, h17, hf⟩ := jm_rd_ok hf
        refine jw_iaload C hJ h17 dX8_commits_33 ?_
        refine jw_aload_n C dX8_commits_34 rfl (hl.at 0 rfl) ?_
        obtain ⟨v18, h18, hf⟩ := jm_rd_ok hf
        refine jw_gI (Cn := RX8) (T := TX8) (N := 29) C hJ h18 rfl inX8_commits_X8 (by decide) (jm_w C 4 rfl) (fun _ h => h) dX8_commits_35 ?_
        refine lv_icmp_le (tgt := 45) C.1 C.2.1 dX8_commits_38 (by decide) (fun hq19 => ?_) (fun hq19 => ?_)
        · replace hf := jm_ift hf hq19
          refine lv_iconst (v := 0) C.1 C.2.1 dX8_commits_45 (by decide) ?_
          refine lv_iadd C.1 C.2.1 dX8_commits_46 ?_
          refine jw_istore_n C dX8_commits_47 rfl hl (by decide) rfl (fun ls hl => ?_)
          refine jw_iinc (v := x3 + 1) C 2 dX8_commits_48 hl rfl (by rfl) (by decide) rfl (fun ls hl => ?_)
          refine lv_goto (tgt := 10) C.1 C.2.1 dX8_commits_51 (by decide) ?_
          exact ih h0 (x2 + 0) (x3 + 1) hf hJ hS (hl.sub [2, 1, 0] rfl)
        · replace hf := jm_iff hf hq19
          refine lv_iconst (v := 1) C.1 C.2.1 dX8_commits_41 (by decide) ?_
          refine lv_goto (tgt := 46) C.1 C.2.1 dX8_commits_42 (by decide) ?_
          refine lv_iadd C.1 C.2.1 dX8_commits_46 ?_
          refine jw_istore_n C dX8_commits_47 rfl hl (by decide) rfl (fun ls hl => ?_)
          refine jw_iinc (v := x3 + 1) C 2 dX8_commits_48 hl rfl (by rfl) (by decide) rfl (fun ls hl => ?_)
          refine lv_goto (tgt := 10) C.1 C.2.1 dX8_commits_51 (by decide) ?_
          exact ih h0 (x2 + 1) (x3 + 1) hf hJ hS (hl.sub [2, 1, 0] rfl)
theorem moX8_commits_2 : ∀ (n : Nat) (h0 : Nat) (x1 : Int32), jm_Mo (fX8_commits_2 n h0 x1) := by
  intro n
  induction n with
  | zero =>
    intro h0 x1
    rw [fX8_commits_2]
    exact jm_Mo_no
  | succ n ih =>
    intro h0 x1
    rw [fX8_commits_2]
    exact jm_Mo_if (jm_Mo_rd (fun _ => jm_Mo_rd (fun _ => jm_Mo_rd (fun _ => jm_Mo_bd (moX8_goesOn _ _ _) (fun _ => jm_Mo_ret _))))) (moX8_commits_10 (fun _ _ => ih _ _) _ _ _ _)
set_option maxHeartbeats 4000000 in
set_option maxRecDepth 100000 in
theorem kX8_commits_2 {rv : Unit} {Sf : jm_S} (C : jm_C G cX8_commits 4 RX8 wsX8_commits (none) p s m args meth c) : ∀ (n : Nat) (h0 : Nat) (x1 : Int32) {S : jm_S} {H : Heap} {locs : List Loc} {ls : Array Slot}, fX8_commits_2 n h0 x1 S = some (rv, Sf) → jm_J G S H → va_S (jm_A G) s.heap H locs → jm_L ls 4 [(0, .inr (some h0)), (1, .inl x1)] → W p l e ({ frames := 3, cells := 0, slots := 0, locals := 77 } : Room) s m args below meth c H locs 0 0 (MQ below (jm_Q G (none) Sf) args s 0 0 (jm_A G)) (F0 m 2 ls []) := by
  intro n
  induction n with
  | zero =>
    intro h0 x1 S H locs ls hf
    rw [fX8_commits_2] at hf
    exact absurd hf (fun h => jm_no_ok h)
  | succ n ih =>
    intro h0 x1 S H locs ls hf hJ hS hl
    rw [fX8_commits_2] at hf
    refine lv_iload_n C.1 C.2.1 dX8_commits_2 rfl (hl.at 1 rfl) ?_
    refine lv_if_eq (tgt := 89) C.1 C.2.1 dX8_commits_3 (by decide) (fun hq1 => ?_) (fun hq1 => ?_)
    · replace hf := jm_ift hf hq1
      refine jw_aload_n C dX8_commits_89 rfl (hl.at 0 rfl) ?_
      refine jw_aload_n C dX8_commits_90 rfl (hl.at 0 rfl) ?_
      obtain ⟨v2, h2, hf⟩ := jm_rd_ok hf
      refine jw_gI (Cn := RX8) (T := TX8) (N := 29) C hJ h2 rfl inX8_commits_X8 (by decide) (jm_w C 5 rfl) (fun _ h => h) dX8_commits_91 ?_
      refine jw_aload_n C dX8_commits_94 rfl (hl.at 0 rfl) ?_
      obtain ⟨v3, h3, hf⟩ := jm_rd_ok hf
      refine jw_gI (Cn := RX8) (T := TX8) (N := 29) C hJ h3 rfl inX8_commits_X8 (by decide) (jm_w C 4 rfl) (fun _ h => h) dX8_commits_95 ?_
      obtain ⟨a4, o4, hf⟩ := jm_rd_ok hf
      obtain ⟨v4, S4, h4, hf⟩ := jm_bd_ok hf
      refine jw_cV (q := (RX8, TX8, 29)) C hJ hS o4 rfl (cX8_goesOn_C l G a4 v2 v3 h4) (cwV 2 C.2.2.2.2.1 gX8_commits_X8_goesOn rfl rfl rfl (by decide +kernel) ⟨Nat.le_of_ble_eq_true rfl, Nat.le_of_ble_eq_true rfl⟩) rfl hl.1 rfl (Nat.le_of_ble_eq_true rfl) dX8_commits_98 ⟨Nat.le_refl _, Nat.le_refl _⟩ (fun H locs hJ hS => ?_)
      refine lv_pop C.1 C.2.1 dX8_commits_101 rfl ?_
      obtain ⟨rfl, rfl⟩ := jm_ret_ok hf
      exact jw_rv C hJ hS (Nat.le_refl _) (Nat.le_refl _) dX8_commits_102
    · replace hf := jm_iff hf hq1
      refine lv_iconst (v := 0) C.1 C.2.1 dX8_commits_6 (by decide) ?_
      refine jw_istore_n C dX8_commits_7 rfl hl (by decide) rfl (fun ls hl => ?_)
      refine lv_iconst (v := 0) C.1 C.2.1 dX8_commits_8 (by decide) ?_
      refine jw_istore_n C dX8_commits_9 rfl hl (by decide) rfl (fun ls hl => ?_)
      exact kX8_commits_10 C (fun h0 x1 S H locs ls hf hJ hS hl => ih h0 x1 hf hJ hS hl) 4096 h0 0 0 hf hJ hS (hl.sub [2, 1, 0] rfl)
theorem moX8_commits (h0 : Nat) : jm_Mo (fX8_commits h0) := by
  unfold fX8_commits
  exact moX8_commits_2 _ _ _
set_option maxHeartbeats 4000000 in
set_option maxRecDepth 100000 in
theorem kX8_commits {rv : Unit} {Sf : jm_S} (C : jm_C G cX8_commits 4 RX8 wsX8_commits (none) p s m args meth c) : ∀ (h0 : Nat) {S : jm_S} {H : Heap} {locs : List Loc} {ls : Array Slot}, fX8_commits h0 S = some (rv, Sf) → jm_J G S H → va_S (jm_A G) s.heap H locs → jm_L ls 4 [(0, .inr (some h0))] → W p l e ({ frames := 3, cells := 0, slots := 0, locals := 77 } : Room) s m args below meth c H locs 0 0 (MQ below (jm_Q G (none) Sf) args s 0 0 (jm_A G)) (F0 m 0 ls []) := by
  intro h0 S H locs ls hf hJ hS hl
  unfold fX8_commits at hf
  refine lv_iconst (v := 1) C.1 C.2.1 dX8_commits_0 (by decide) ?_
  refine jw_istore_n C dX8_commits_1 rfl hl (by decide) rfl (fun ls hl => ?_)
  exact kX8_commits_2 C 4096 h0 1 hf hJ hS (hl.sub [1, 0] rfl)
set_option maxHeartbeats 4000000 in
set_option maxRecDepth 100000 in
theorem cX8_commits_C (l : Launch) (G : jm_G) (h0 : Nat) {S Sf : jm_S} {rv : Unit} (hf : fX8_commits h0 S = some (rv, Sf)) : Met l yX8_commits wsX8_commits ({ frames := 3, cells := 0, slots := 0, locals := 77 } : Room) (jm_Pc G S [.ref h0]) (jm_Q G (none) Sf) 0 0 (jm_A G) := by
  refine Met.ofW (cc := cX8_commits) (maxL := 4) (ret := none) (by decide) rfl ?_
  intro p e s m args below meth c s₁ B hml hv
  obtain ⟨rfl, hJ, hX⟩ := hv
  have C : jm_C G cX8_commits 4 RX8 wsX8_commits (none) p s m _ meth c := ⟨B.exec, B.bytes, hml, findClass_of_methodNamed B.named, atoms_spec (ws := wsX8_commits) B.pre, B.returns, B.notSynchronized, hX⟩
  obtain ⟨ls, he, hl⟩ := jm_entry m [.inr (some h0)] (n := 4) (Nat.le_of_ble_eq_true rfl)
  have he : entryFrame m ([.ref h0] : List Value).toArray 4 = F0 m 0 ls [] := he
  rw [he]
  exact kX8_commits C h0 hf hJ va_S.rf (hl.sub [0] rfl)
/-! CoordinationServiceModel.noLeader -/
def fX8_noLeader_8 : Nat → Nat → Int32 → jm_P Unit
  | 0, _, _ => jm_no
  | n + 1, h0, x1 => (if 5 ≤ x1 then jm_ret () else jm_rd (jm_gR (some h0) 9 2) fun v3 => jm_rd (jm_z 0) fun _ => jm_wr (jm_si v3 1 x1 0) <| fX8_noLeader_8 n h0 (x1 + 1))
def fX8_noLeader (h0 : Nat) : jm_P Unit := jm_wr (jm_p (some h0) 9 5 (.inl (-8))) <| fX8_noLeader_8 4096 h0 0
theorem inX8_noLeader_X8 : ∀ w ∈ wsX80, w ∈ wsX8_noLeader := fun _ h => List.mem_cons_of_mem _ (List.mem_append_right _ h)
theorem moX8_noLeader_8 : ∀ (n : Nat) (h0 : Nat) (x1 : Int32), jm_Mo (fX8_noLeader_8 n h0 x1) := by
  intro n
  induction n with
  | zero =>
    intro h0 x1
    rw [fX8_noLeader_8]
    exact jm_Mo_no
  | succ n ih =>
    intro h0 x1
    rw [fX8_noLeader_8]
    exact jm_Mo_if (jm_Mo_ret _) (jm_Mo_rd (fun _ => jm_Mo_rd (fun _ => jm_Mo_wr jm_si_st (ih _ _))))
set_option maxHeartbeats 4000000 in
set_option maxRecDepth 100000 in
theorem kX8_noLeader_8 {rv : Unit} {Sf : jm_S} (C : jm_C G cX8_noLeader 2 RX8 wsX8_noLeader (none) p s m args meth c) : ∀ (n : Nat) (h0 : Nat) (x1 : Int32) {S : jm_S} {H : Heap} {locs : List Loc} {ls : Array Slot}, fX8_noLeader_8 n h0 x1 S = some (rv, Sf) → jm_J G S H → va_S (jm_A G) s.heap H locs → jm_L ls 2 [(0, .inr (some h0)), (1, .inl x1)] → W p l e ({ frames := 0, cells := 0, slots := 0, locals := 0 } : Room) s m args below meth c H locs 0 0 (MQ below (jm_Q G (none) Sf) args s 0 0 (jm_A G)) (F0 m 8 ls []) := by
  intro n
  induction n with
  | zero =>
    intro h0 x1 S H locs ls hf
    rw [fX8_noLeader_8] at hf
    exact absurd hf (fun h => jm_no_ok h)
  | succ n ih =>
    intro h0 x1 S H locs ls hf hJ hS hl
    rw [fX8_noLeader_8] at hf
    refine lv_iload_n C.1 C.2.1 dX8_noLeader_8 rfl (hl.at 1 rfl) ?_
    refine lv_iconst (v := 5) C.1 C.2.1 dX8_noLeader_9 (by decide) ?_
    refine lv_icmp_ge (tgt := 26) C.1 C.2.1 dX8_noLeader_10 (by decide) (fun hq2 => ?_) (fun hq2 => ?_)
    · replace hf := jm_ift hf hq2
      obtain ⟨rfl, rfl⟩ := jm_ret_ok hf
      exact jw_rv C hJ hS (Nat.le_refl _) (Nat.le_refl _) dX8_noLeader_26
    · replace hf := jm_iff hf hq2
      refine jw_aload_n C dX8_noLeader_13 rfl (hl.at 0 rfl) ?_
      obtain ⟨v3, h3, hf⟩ := jm_rd_ok hf
      refine jw_gR (Cn := RX8) (T := TX8) (N := 29) C hJ h3 rfl inX8_noLeader_X8 (by decide) (jm_w C 2 rfl) (fun _ h => h) dX8_noLeader_14 ?_
      refine lv_iload_n C.1 C.2.1 dX8_noLeader_17 rfl (hl.at 1 rfl) ?_
      refine lv_iconst (v := 0) C.1 C.2.1 dX8_noLeader_18 (by decide) ?_
      obtain ⟨u4, z4, hf⟩ := jm_rd_ok hf
      obtain ⟨S4, h4, hf⟩ := jm_wr_ok hf
      refine jw_zastore C hJ hS z4 h4 dX8_noLeader_19 (fun H locs hJ hS => ?_)
      refine jw_iinc (v := x1 + 1) C 1 dX8_noLeader_20 hl rfl (by rfl) (by decide) rfl (fun ls hl => ?_)
      refine lv_goto (tgt := 8) C.1 C.2.1 dX8_noLeader_23 (by decide) ?_
      exact ih h0 (x1 + 1) hf hJ hS (hl.sub [1, 0] rfl)
theorem moX8_noLeader (h0 : Nat) : jm_Mo (fX8_noLeader h0) := by
  unfold fX8_noLeader
  exact jm_Mo_wr jm_p_st (moX8_noLeader_8 _ _ _)
set_option maxHeartbeats 4000000 in
set_option maxRecDepth 100000 in
theorem kX8_noLeader {rv : Unit} {Sf : jm_S} (C : jm_C G cX8_noLeader 2 RX8 wsX8_noLeader (none) p s m args meth c) : ∀ (h0 : Nat) {S : jm_S} {H : Heap} {locs : List Loc} {ls : Array Slot}, fX8_noLeader h0 S = some (rv, Sf) → jm_J G S H → va_S (jm_A G) s.heap H locs → jm_L ls 2 [(0, .inr (some h0))] → W p l e ({ frames := 0, cells := 0, slots := 0, locals := 0 } : Room) s m args below meth c H locs 0 0 (MQ below (jm_Q G (none) Sf) args s 0 0 (jm_A G)) (F0 m 0 ls []) := by
  intro h0 S H locs ls hf hJ hS hl
  unfold fX8_noLeader at hf
  refine jw_aload_n C dX8_noLeader_0 rfl (hl.at 0 rfl) ?_
  refine lv_bipush (v := (-8)) C.1 C.2.1 dX8_noLeader_1 (by decide) ?_
  obtain ⟨S1, h1, hf⟩ := jm_wr_ok hf
  refine jw_p (x := .inl (-8)) (ty := .int) (Cn := RX8) (T := TX8) (N := 29) C hJ hS h1 rfl inX8_noLeader_X8 tyX8 tyX8_ok nmX8 (by decide) (jm_w C 1 rfl) (fun _ h => h) rfl (by decide +kernel) rfl rfl dX8_noLeader_3 (fun H locs hJ hS => ?_)
  refine lv_iconst (v := 0) C.1 C.2.1 dX8_noLeader_6 (by decide) ?_
  refine jw_istore_n C dX8_noLeader_7 rfl hl (by decide) rfl (fun ls hl => ?_)
  exact kX8_noLeader_8 C 4096 h0 0 hf hJ hS (hl.sub [1, 0] rfl)
set_option maxHeartbeats 4000000 in
set_option maxRecDepth 100000 in
theorem cX8_noLeader_C (l : Launch) (G : jm_G) (h0 : Nat) {S Sf : jm_S} {rv : Unit} (hf : fX8_noLeader h0 S = some (rv, Sf)) : Met l yX8_noLeader wsX8_noLeader ({ frames := 0, cells := 0, slots := 0, locals := 0 } : Room) (jm_Pc G S [.ref h0]) (jm_Q G (none) Sf) 0 0 (jm_A G) := by
  refine Met.ofW (cc := cX8_noLeader) (maxL := 2) (ret := none) (by decide) rfl ?_
  intro p e s m args below meth c s₁ B hml hv
  obtain ⟨rfl, hJ, hX⟩ := hv
  have C : jm_C G cX8_noLeader 2 RX8 wsX8_noLeader (none) p s m _ meth c := ⟨B.exec, B.bytes, hml, findClass_of_methodNamed B.named, atoms_spec (ws := wsX8_noLeader) B.pre, B.returns, B.notSynchronized, hX⟩
  obtain ⟨ls, he, hl⟩ := jm_entry m [.inr (some h0)] (n := 2) (Nat.le_of_ble_eq_true rfl)
  have he : entryFrame m ([.ref h0] : List Value).toArray 2 = F0 m 0 ls [] := he
  rw [he]
  exact kX8_noLeader C h0 hf hJ va_S.rf (hl.sub [0] rfl)
/-! CoordinationServiceModel.crash -/
def fX8_crash_40 : Nat → Nat → Int32 → Int32 → Int32 → jm_P Int32
  | 0, _, _, _, _ => jm_no
  | n + 1, h0, x1, x2, x3 => jm_rd (jm_gI (some h0) 9 25) fun v10 => (if v10 ≤ x3 then jm_wr (jm_p (some h0) 9 25 (.inl x2)) <| jm_rd (jm_gI (some h0) 9 5) fun v13 => (if v13 = x1 then jm_rd (jm_o (some h0) 9) fun a15 => jm_bd (fX8_noLeader a15) fun _ => jm_rd (jm_o (some h0) 9) fun a16 => jm_bd (fX8_ups a16) fun v16 => jm_ret v16 else jm_rd (jm_o (some h0) 9) fun a17 => jm_bd (fX8_actives a17) fun v17 => jm_rd (jm_o (some h0) 9) fun a18 => jm_bd (fX8_quorum a18) fun v18 => (if v18 ≤ v17 then jm_rd (jm_o (some h0) 9) fun a20 => jm_bd (fX8_ups a20) fun v20 => jm_ret v20 else jm_rd (jm_o (some h0) 9) fun a21 => jm_bd (fX8_noLeader a21) fun _ => jm_rd (jm_o (some h0) 9) fun a22 => jm_bd (fX8_ups a22) fun v22 => jm_ret v22)) else jm_rd (jm_gR (some h0) 9 26) fun v23 => jm_rd (jm_gi v23 0 x3) fun v24 => (if v24 = x1 then fX8_crash_40 n h0 x1 x2 (x3 + 1) else jm_rd (jm_gR (some h0) 9 26) fun v26 => jm_rd (jm_gR (some h0) 9 26) fun v27 => jm_rd (jm_gi v27 0 x3) fun v28 => jm_wr (jm_si v26 0 x2 v28) <| jm_rd (jm_gR (some h0) 9 27) fun v30 => jm_rd (jm_gR (some h0) 9 27) fun v31 => jm_rd (jm_gi v31 0 x3) fun v32 => jm_wr (jm_si v30 0 x2 v32) <| jm_rd (jm_gR (some h0) 9 28) fun v34 => jm_rd (jm_gR (some h0) 9 28) fun v35 => jm_rd (jm_gi v35 0 x3) fun v36 => jm_wr (jm_si v34 0 x2 v36) <| fX8_crash_40 n h0 x1 (x2 + 1) (x3 + 1)))
def fX8_crash (h0 : Nat) (x1 : Int32) : jm_P Int32 := jm_rd (jm_o (some h0) 9) fun a1 => jm_bd (fX8_isServer a1 x1) fun v1 => (if v1 = 0 then jm_ret (-1) else jm_rd (jm_gR (some h0) 9 1) fun v3 => jm_rd (jm_gi v3 1 x1) fun v4 => (if v4 = 0 then jm_ret (-2) else jm_rd (jm_gR (some h0) 9 1) fun v6 => jm_rd (jm_z 0) fun _ => jm_wr (jm_si v6 1 x1 0) <| jm_rd (jm_gR (some h0) 9 2) fun v8 => jm_rd (jm_z 0) fun _ => jm_wr (jm_si v8 1 x1 0) <| fX8_crash_40 4096 h0 x1 0 0))
theorem inX8_crash_X8 : ∀ w ∈ wsX80, w ∈ wsX8_crash := fun _ h => List.mem_cons_of_mem _ (List.mem_append_right _ h)
theorem moX8_crash_40 : ∀ (n : Nat) (h0 : Nat) (x1 : Int32) (x2 : Int32) (x3 : Int32), jm_Mo (fX8_crash_40 n h0 x1 x2 x3) := by
  intro n
  induction n with
  | zero =>
    intro h0 x1 x2 x3
    rw [fX8_crash_40]
    exact jm_Mo_no
  | succ n ih =>
    intro h0 x1 x2 x3
    rw [fX8_crash_40]
    exact jm_Mo_rd (fun _ => jm_Mo_if (jm_Mo_wr jm_p_st (jm_Mo_rd (fun _ => jm_Mo_if (jm_Mo_rd (fun _ => jm_Mo_bd (moX8_noLeader _) (fun _ => jm_Mo_rd (fun _ => jm_Mo_bd (moX8_ups _) (fun _ => jm_Mo_ret _))))) (jm_Mo_rd (fun _ => jm_Mo_bd (moX8_actives _) (fun _ => jm_Mo_rd (fun _ => jm_Mo_bd (moX8_quorum _) (fun _ => jm_Mo_if (jm_Mo_rd (fun _ => jm_Mo_bd (moX8_ups _) (fun _ => jm_Mo_ret _))) (jm_Mo_rd (fun _ => jm_Mo_bd (moX8_noLeader _) (fun _ => jm_Mo_rd (fun _ => jm_Mo_bd (moX8_ups _) (fun _ => jm_Mo_ret _))))))))))))) (jm_Mo_rd (fun _ => jm_Mo_rd (fun _ => jm_Mo_if (ih _ _ _ _) (jm_Mo_rd (fun _ => jm_Mo_rd (fun _ => jm_Mo_rd (fun _ => jm_Mo_wr jm_si_st (jm_Mo_rd (fun _ => jm_Mo_rd (fun _ => jm_Mo_rd (fun _ => jm_Mo_wr jm_si_st (jm_Mo_rd (fun _ => jm_Mo_rd (fun _ => jm_Mo_rd (fun _ => jm_Mo_wr jm_si_st (ih _ _ _ _)))))))))))))))))
set_option maxHeartbeats 4000000 in
set_option maxRecDepth 100000 in
theorem kX8_crash_40 {rv : Int32} {Sf : jm_S} (C : jm_C G cX8_crash 4 RX8 wsX8_crash ((some .int)) p s m args meth c) : ∀ (n : Nat) (h0 : Nat) (x1 : Int32) (x2 : Int32) (x3 : Int32) {S : jm_S} {H : Heap} {locs : List Loc} {ls : Array Slot}, fX8_crash_40 n h0 x1 x2 x3 S = some (rv, Sf) → jm_J G S H → va_S (jm_A G) s.heap H locs → jm_L ls 4 [(0, .inr (some h0)), (1, .inl x1), (2, .inl x2), (3, .inl x3)] → W p l e ({ frames := 2, cells := 0, slots := 0, locals := 46 } : Room) s m args below meth c H locs 0 0 (MQ below (jm_Q G (some (.int rv)) Sf) args s 0 0 (jm_A G)) (F0 m 40 ls []) := by
  intro n
  induction n with
  | zero =>
    intro h0 x1 x2 x3 S H locs ls hf
    rw [fX8_crash_40] at hf
    exact absurd hf (fun h => jm_no_ok h)
  | succ n ih =>
    intro h0 x1 x2 x3 S H locs ls hf hJ hS hl
    rw [fX8_crash_40] at hf
    refine lv_iload_n C.1 C.2.1 dX8_crash_40 rfl (hl.at 3 rfl) ?_
    refine jw_aload_n C dX8_crash_41 rfl (hl.at 0 rfl) ?_
    obtain ⟨v10, h10, hf⟩ := jm_rd_ok hf
    refine jw_gI (Cn := RX8) (T := TX8) (N := 29) C hJ h10 rfl inX8_crash_X8 (by decide) (jm_w C 3 rfl) (fun _ h => h) dX8_crash_42 ?_
    refine lv_icmp_ge (tgt := 103) C.1 C.2.1 dX8_crash_45 (by decide) (fun hq11 => ?_) (fun hq11 => ?_)
    · replace hf := jm_ift hf hq11
      refine jw_aload_n C dX8_crash_103 rfl (hl.at 0 rfl) ?_
      refine lv_iload_n C.1 C.2.1 dX8_crash_104 rfl (hl.at 2 rfl) ?_
      obtain ⟨S12, h12, hf⟩ := jm_wr_ok hf
      refine jw_p (x := .inl x2) (ty := .int) (Cn := RX8) (T := TX8) (N := 29) C hJ hS h12 rfl inX8_crash_X8 tyX8 tyX8_ok nmX8 (by decide) (jm_w C 3 rfl) (fun _ h => h) rfl (by decide +kernel) rfl rfl dX8_crash_105 (fun H locs hJ hS => ?_)
      refine jw_aload_n C dX8_crash_108 rfl (hl.at 0 rfl) ?_
      obtain ⟨v13, h13, hf⟩ := jm_rd_ok hf
      refine jw_gI (Cn := RX8) (T := TX8) (N := 29) C hJ h13 rfl inX8_crash_X8 (by decide) (jm_w C 7 rfl) (fun _ h => h) dX8_crash_109 ?_
      refine lv_iload_n C.1 C.2.1 dX8_crash_112 rfl (hl.at 1 rfl) ?_
      refine lv_icmp_eq (tgt := 127) C.1 C.2.1 dX8_crash_113 (by decide) (fun hq14 => ?_) (fun hq14 => ?_)
      · replace hf := jm_ift hf hq14
        refine jw_aload_n C dX8_crash_127 rfl (hl.at 0 rfl) ?_
        obtain ⟨a15, o15, hf⟩ := jm_rd_ok hf
        obtain ⟨v15, S15, h15, hf⟩ := jm_bd_ok hf
        refine jw_cV (q := (RX8, TX8, 29)) C hJ hS o15 rfl (cX8_noLeader_C l G a15 h15) (cwV 0 C.2.2.2.2.1 gX8_crash_X8_noLeader rfl rfl rfl (by decide +kernel) ⟨Nat.le_of_ble_eq_true rfl, Nat.le_of_ble_eq_true rfl⟩) rfl hl.1 rfl (Nat.le_of_ble_eq_true rfl) dX8_crash_128 ⟨Nat.le_refl _, Nat.le_refl _⟩ (fun H locs hJ hS => ?_)
        refine jw_aload_n C dX8_crash_131 rfl (hl.at 0 rfl) ?_
        obtain ⟨a16, o16, hf⟩ := jm_rd_ok hf
        obtain ⟨v16, S16, h16, hf⟩ := jm_bd_ok hf
        refine jw_cV (q := (RX8, TX8, 29)) C hJ hS o16 rfl (cX8_ups_C l G a16 h16) (cwV 0 C.2.2.2.2.1 gX8_crash_X8_ups rfl rfl rfl (by decide +kernel) ⟨Nat.le_of_ble_eq_true rfl, Nat.le_of_ble_eq_true rfl⟩) rfl hl.1 rfl (Nat.le_of_ble_eq_true rfl) dX8_crash_132 ⟨Nat.le_refl _, Nat.le_refl _⟩ (fun H locs hJ hS => ?_)
        obtain ⟨rfl, rfl⟩ := jm_ret_ok hf
        exact jw_ri C hJ hS (Nat.le_refl _) (Nat.le_refl _) dX8_crash_135
      · replace hf := jm_iff hf hq14
        refine jw_aload_n C dX8_crash_116 rfl (hl.at 0 rfl) ?_
        obtain ⟨a17, o17, hf⟩ := jm_rd_ok hf
        obtain ⟨v17, S17, h17, hf⟩ := jm_bd_ok hf
        refine jw_cV (q := (RX8, TX8, 29)) C hJ hS o17 rfl (cX8_actives_C l G a17 h17) (cwV 0 C.2.2.2.2.1 gX8_crash_X8_actives rfl rfl rfl (by decide +kernel) ⟨Nat.le_of_ble_eq_true rfl, Nat.le_of_ble_eq_true rfl⟩) rfl hl.1 rfl (Nat.le_of_ble_eq_true rfl) dX8_crash_117 ⟨Nat.le_refl _, Nat.le_refl _⟩ (fun H locs hJ hS => ?_)
        refine jw_aload_n C dX8_crash_120 rfl (hl.at 0 rfl) ?_
        obtain ⟨a18, o18, hf⟩ := jm_rd_ok hf
        obtain ⟨v18, S18, h18, hf⟩ := jm_bd_ok hf
        refine jw_cV (q := (RX8, TX8, 29)) C hJ hS o18 rfl (cX8_quorum_C l G a18 h18) (cwV 0 C.2.2.2.2.1 gX8_crash_X8_quorum rfl rfl rfl (by decide +kernel) ⟨Nat.le_of_ble_eq_true rfl, Nat.le_of_ble_eq_true rfl⟩) rfl hl.1 rfl (Nat.le_of_ble_eq_true rfl) dX8_crash_121 ⟨Nat.le_refl _, Nat.le_refl _⟩ (fun H locs hJ hS => ?_)
        refine lv_icmp_ge (tgt := 131) C.1 C.2.1 dX8_crash_124 (by decide) (fun hq19 => ?_) (fun hq19 => ?_)
        · replace hf := jm_ift hf hq19
          refine jw_aload_n C dX8_crash_131 rfl (hl.at 0 rfl) ?_
          obtain ⟨a20, o20, hf⟩ := jm_rd_ok hf
          obtain ⟨v20, S20, h20, hf⟩ := jm_bd_ok hf
          refine jw_cV (q := (RX8, TX8, 29)) C hJ hS o20 rfl (cX8_ups_C l G a20 h20) (cwV 0 C.2.2.2.2.1 gX8_crash_X8_ups rfl rfl rfl (by decide +kernel) ⟨Nat.le_of_ble_eq_true rfl, Nat.le_of_ble_eq_true rfl⟩) rfl hl.1 rfl (Nat.le_of_ble_eq_true rfl) dX8_crash_132 ⟨Nat.le_refl _, Nat.le_refl _⟩ (fun H locs hJ hS => ?_)
          obtain ⟨rfl, rfl⟩ := jm_ret_ok hf
          exact jw_ri C hJ hS (Nat.le_refl _) (Nat.le_refl _) dX8_crash_135
        · replace hf := jm_iff hf hq19
          refine jw_aload_n C dX8_crash_127 rfl (hl.at 0 rfl) ?_
          obtain ⟨a21, o21, hf⟩ := jm_rd_ok hf
          obtain ⟨v21, S21, h21, hf⟩ := jm_bd_ok hf
          refine jw_cV (q := (RX8, TX8, 29)) C hJ hS o21 rfl (cX8_noLeader_C l G a21 h21) (cwV 0 C.2.2.2.2.1 gX8_crash_X8_noLeader rfl rfl rfl (by decide +kernel) ⟨Nat.le_of_ble_eq_true rfl, Nat.le_of_ble_eq_true rfl⟩) rfl hl.1 rfl (Nat.le_of_ble_eq_true rfl) dX8_crash_128 ⟨Nat.le_refl _, Nat.le_refl _⟩ (fun H locs hJ hS => ?_)
          refine jw_aload_n C dX8_crash_131 rfl (hl.at 0 rfl) ?_
          obtain ⟨a22, o22, hf⟩ := jm_rd_ok hf
          obtain ⟨v22, S22, h22, hf⟩ := jm_bd_ok hf
          refine jw_cV (q := (RX8, TX8, 29)) C hJ hS o22 rfl (cX8_ups_C l G a22 h22) (cwV 0 C.2.2.2.2.1 gX8_crash_X8_ups rfl rfl rfl (by decide +kernel) ⟨Nat.le_of_ble_eq_true rfl, Nat.le_of_ble_eq_true rfl⟩) rfl hl.1 rfl (Nat.le_of_ble_eq_true rfl) dX8_crash_132 ⟨Nat.le_refl _, Nat.le_refl _⟩ (fun H locs hJ hS => ?_)
          obtain ⟨rfl, rfl⟩ := jm_ret_ok hf
          exact jw_ri C hJ hS (Nat.le_refl _) (Nat.le_refl _) dX8_crash_135
    · replace hf := jm_iff hf hq11
      refine jw_aload_n C dX8_crash_48 rfl (hl.at 0 rfl) ?_
      obtain ⟨v23, h23, hf⟩ := jm_rd_ok hf
      refine jw_gR (Cn := RX8) (T := TX8) (N := 29) C hJ h23 rfl inX8_crash_X8 (by decide) (jm_w C 4 rfl) (fun _ h => h) dX8_crash_49 ?_
      refine lv_iload_n C.1 C.2.1 dX8_crash_52 rfl (hl.at 3 rfl) ?_
      obtain ⟨v24, h24, hf⟩ := jm_rd_ok hf
      refine jw_iaload C hJ h24 dX8_crash_53 ?_
      refine lv_iload_n C.1 C.2.1 dX8_crash_54 rfl (hl.at 1 rfl) ?_
      refine lv_icmp_eq (tgt := 97) C.1 C.2.1 dX8_crash_55 (by decide) (fun hq25 => ?_) (fun hq25 => ?_)
      · replace hf := jm_ift hf hq25
        refine jw_iinc (v := x3 + 1) C 3 dX8_crash_97 hl rfl (by rfl) (by decide) rfl (fun ls hl => ?_)
        refine lv_goto (tgt := 40) C.1 C.2.1 dX8_crash_100 (by decide) ?_
        exact ih h0 x1 x2 (x3 + 1) hf hJ hS (hl.sub [1, 2, 3, 0] rfl)
      · replace hf := jm_iff hf hq25
        refine jw_aload_n C dX8_crash_58 rfl (hl.at 0 rfl) ?_
        obtain ⟨v26, h26, hf⟩ := jm_rd_ok hf
        refine jw_gR (Cn := RX8) (T := TX8) (N := 29) C hJ h26 rfl inX8_crash_X8 (by decide) (jm_w C 4 rfl) (fun _ h => h) dX8_crash_59 ?_
        refine lv_iload_n C.1 C.2.1 dX8_crash_62 rfl (hl.at 2 rfl) ?_
        refine jw_aload_n C dX8_crash_63 rfl (hl.at 0 rfl) ?_
        obtain ⟨v27, h27, hf⟩ := jm_rd_ok hf
        refine jw_gR (Cn := RX8) (T := TX8) (N := 29) C hJ h27 rfl inX8_crash_X8 (by decide) (jm_w C 4 rfl) (fun _ h => h) dX8_crash_64 ?_
        refine lv_iload_n C.1 C.2.1 dX8_crash_67 rfl (hl.at 3 rfl) ?_
        obtain ⟨v28, h28, hf⟩ := jm_rd_ok hf
        refine jw_iaload C hJ h28 dX8_crash_68 ?_
        obtain ⟨S29, h29, hf⟩ := jm_wr_ok hf
        refine jw_iastore C hJ hS h29 dX8_crash_69 (fun H locs hJ hS => ?_)
        refine jw_aload_n C dX8_crash_70 rfl (hl.at 0 rfl) ?_
        obtain ⟨v30, h30, hf⟩ := jm_rd_ok hf
        refine jw_gR (Cn := RX8) (T := TX8) (N := 29) C hJ h30 rfl inX8_crash_X8 (by decide) (jm_w C 5 rfl) (fun _ h => h) dX8_crash_71 ?_
        refine lv_iload_n C.1 C.2.1 dX8_crash_74 rfl (hl.at 2 rfl) ?_
        refine jw_aload_n C dX8_crash_75 rfl (hl.at 0 rfl) ?_
        obtain ⟨v31, h31, hf⟩ := jm_rd_ok hf
        refine jw_gR (Cn := RX8) (T := TX8) (N := 29) C hJ h31 rfl inX8_crash_X8 (by decide) (jm_w C 5 rfl) (fun _ h => h) dX8_crash_76 ?_
        refine lv_iload_n C.1 C.2.1 dX8_crash_79 rfl (hl.at 3 rfl) ?_
        obtain ⟨v32, h32, hf⟩ := jm_rd_ok hf
        refine jw_iaload C hJ h32 dX8_crash_80 ?_
        obtain ⟨S33, h33, hf⟩ := jm_wr_ok hf
        refine jw_iastore C hJ hS h33 dX8_crash_81 (fun H locs hJ hS => ?_)
        refine jw_aload_n C dX8_crash_82 rfl (hl.at 0 rfl) ?_
        obtain ⟨v34, h34, hf⟩ := jm_rd_ok hf
        refine jw_gR (Cn := RX8) (T := TX8) (N := 29) C hJ h34 rfl inX8_crash_X8 (by decide) (jm_w C 6 rfl) (fun _ h => h) dX8_crash_83 ?_
        refine lv_iload_n C.1 C.2.1 dX8_crash_86 rfl (hl.at 2 rfl) ?_
        refine jw_aload_n C dX8_crash_87 rfl (hl.at 0 rfl) ?_
        obtain ⟨v35, h35, hf⟩ := jm_rd_ok hf
        refine jw_gR (Cn := RX8) (T := TX8) (N := 29) C hJ h35 rfl inX8_crash_X8 (by decide) (jm_w C 6 rfl) (fun _ h => h) dX8_crash_88 ?_
        refine lv_iload_n C.1 C.2.1 dX8_crash_91 rfl (hl.at 3 rfl) ?_
        obtain ⟨v36, h36, hf⟩ := jm_rd_ok hf
        refine jw_iaload C hJ h36 dX8_crash_92 ?_
        obtain ⟨S37, h37, hf⟩ := jm_wr_ok hf
        refine jw_iastore C hJ hS h37 dX8_crash_93 (fun H locs hJ hS => ?_)
        refine jw_iinc (v := x2 + 1) C 2 dX8_crash_94 hl rfl (by rfl) (by decide) rfl (fun ls hl => ?_)
        refine jw_iinc (v := x3 + 1) C 3 dX8_crash_97 hl rfl (by rfl) (by decide) rfl (fun ls hl => ?_)
        refine lv_goto (tgt := 40) C.1 C.2.1 dX8_crash_100 (by decide) ?_
        exact ih h0 x1 (x2 + 1) (x3 + 1) hf hJ hS (hl.sub [2, 3, 1, 0] rfl)
theorem moX8_crash (h0 : Nat) (x1 : Int32) : jm_Mo (fX8_crash h0 x1) := by
  unfold fX8_crash
  exact jm_Mo_rd (fun _ => jm_Mo_bd (moX8_isServer _ _) (fun _ => jm_Mo_if (jm_Mo_ret _) (jm_Mo_rd (fun _ => jm_Mo_rd (fun _ => jm_Mo_if (jm_Mo_ret _) (jm_Mo_rd (fun _ => jm_Mo_rd (fun _ => jm_Mo_wr jm_si_st (jm_Mo_rd (fun _ => jm_Mo_rd (fun _ => jm_Mo_wr jm_si_st (moX8_crash_40 _ _ _ _ _))))))))))))
set_option maxHeartbeats 4000000 in
set_option maxRecDepth 100000 in
theorem kX8_crash {rv : Int32} {Sf : jm_S} (C : jm_C G cX8_crash 4 RX8 wsX8_crash ((some .int)) p s m args meth c) : ∀ (h0 : Nat) (x1 : Int32) {S : jm_S} {H : Heap} {locs : List Loc} {ls : Array Slot}, fX8_crash h0 x1 S = some (rv, Sf) → jm_J G S H → va_S (jm_A G) s.heap H locs → jm_L ls 4 [(0, .inr (some h0)), (1, .inl x1)] → W p l e ({ frames := 2, cells := 0, slots := 0, locals := 46 } : Room) s m args below meth c H locs 0 0 (MQ below (jm_Q G (some (.int rv)) Sf) args s 0 0 (jm_A G)) (F0 m 0 ls []) := by
  intro h0 x1 S H locs ls hf hJ hS hl
  unfold fX8_crash at hf
  refine jw_aload_n C dX8_crash_0 rfl (hl.at 0 rfl) ?_
  refine lv_iload_n C.1 C.2.1 dX8_crash_1 rfl (hl.at 1 rfl) ?_
  obtain ⟨a1, o1, hf⟩ := jm_rd_ok hf
  obtain ⟨v1, S1, h1, hf⟩ := jm_bd_ok hf
  refine jw_cV (q := (RX8, TX8, 29)) C hJ hS o1 rfl (cX8_isServer_C l G a1 x1 h1) (cwV 1 C.2.2.2.2.1 gX8_crash_X8_isServer rfl rfl rfl (by decide +kernel) ⟨Nat.le_of_ble_eq_true rfl, Nat.le_of_ble_eq_true rfl⟩) rfl hl.1 rfl (Nat.le_of_ble_eq_true rfl) dX8_crash_2 ⟨Nat.le_refl _, Nat.le_refl _⟩ (fun H locs hJ hS => ?_)
  refine lv_if_ne (tgt := 10) C.1 C.2.1 dX8_crash_5 (by decide) (fun hq2 => ?_) (fun hq2 => ?_)
  · replace hf := jm_iff hf hq2
    refine jw_aload_n C dX8_crash_10 rfl (hl.at 0 rfl) ?_
    obtain ⟨v3, h3, hf⟩ := jm_rd_ok hf
    refine jw_gR (Cn := RX8) (T := TX8) (N := 29) C hJ h3 rfl inX8_crash_X8 (by decide) (jm_w C 1 rfl) (fun _ h => h) dX8_crash_11 ?_
    refine lv_iload_n C.1 C.2.1 dX8_crash_14 rfl (hl.at 1 rfl) ?_
    obtain ⟨v4, h4, hf⟩ := jm_rd_ok hf
    refine jw_zaload C hJ h4 dX8_crash_15 ?_
    refine lv_if_ne (tgt := 22) C.1 C.2.1 dX8_crash_16 (by decide) (fun hq5 => ?_) (fun hq5 => ?_)
    · replace hf := jm_iff hf hq5
      refine jw_aload_n C dX8_crash_22 rfl (hl.at 0 rfl) ?_
      obtain ⟨v6, h6, hf⟩ := jm_rd_ok hf
      refine jw_gR (Cn := RX8) (T := TX8) (N := 29) C hJ h6 rfl inX8_crash_X8 (by decide) (jm_w C 1 rfl) (fun _ h => h) dX8_crash_23 ?_
      refine lv_iload_n C.1 C.2.1 dX8_crash_26 rfl (hl.at 1 rfl) ?_
      refine lv_iconst (v := 0) C.1 C.2.1 dX8_crash_27 (by decide) ?_
      obtain ⟨u7, z7, hf⟩ := jm_rd_ok hf
      obtain ⟨S7, h7, hf⟩ := jm_wr_ok hf
      refine jw_zastore C hJ hS z7 h7 dX8_crash_28 (fun H locs hJ hS => ?_)
      refine jw_aload_n C dX8_crash_29 rfl (hl.at 0 rfl) ?_
      obtain ⟨v8, h8, hf⟩ := jm_rd_ok hf
      refine jw_gR (Cn := RX8) (T := TX8) (N := 29) C hJ h8 rfl inX8_crash_X8 (by decide) (jm_w C 2 rfl) (fun _ h => h) dX8_crash_30 ?_
      refine lv_iload_n C.1 C.2.1 dX8_crash_33 rfl (hl.at 1 rfl) ?_
      refine lv_iconst (v := 0) C.1 C.2.1 dX8_crash_34 (by decide) ?_
      obtain ⟨u9, z9, hf⟩ := jm_rd_ok hf
      obtain ⟨S9, h9, hf⟩ := jm_wr_ok hf
      refine jw_zastore C hJ hS z9 h9 dX8_crash_35 (fun H locs hJ hS => ?_)
      refine lv_iconst (v := 0) C.1 C.2.1 dX8_crash_36 (by decide) ?_
      refine jw_istore_n C dX8_crash_37 rfl hl (by decide) rfl (fun ls hl => ?_)
      refine lv_iconst (v := 0) C.1 C.2.1 dX8_crash_38 (by decide) ?_
      refine jw_istore_n C dX8_crash_39 rfl hl (by decide) rfl (fun ls hl => ?_)
      exact kX8_crash_40 C 4096 h0 x1 0 0 hf hJ hS (hl.sub [2, 3, 1, 0] rfl)
    · replace hf := jm_ift hf hq5
      refine lv_bipush (v := (-2)) C.1 C.2.1 dX8_crash_19 (by decide) ?_
      obtain ⟨rfl, rfl⟩ := jm_ret_ok hf
      exact jw_ri C hJ hS (Nat.le_refl _) (Nat.le_refl _) dX8_crash_21
  · replace hf := jm_ift hf hq2
    refine lv_iconst (v := (-1)) C.1 C.2.1 dX8_crash_8 (by decide) ?_
    obtain ⟨rfl, rfl⟩ := jm_ret_ok hf
    exact jw_ri C hJ hS (Nat.le_refl _) (Nat.le_refl _) dX8_crash_9
set_option maxHeartbeats 4000000 in
set_option maxRecDepth 100000 in
theorem cX8_crash_C (l : Launch) (G : jm_G) (h0 : Nat) (x1 : Int32) {S Sf : jm_S} {rv : Int32} (hf : fX8_crash h0 x1 S = some (rv, Sf)) : Met l yX8_crash wsX8_crash ({ frames := 2, cells := 0, slots := 0, locals := 46 } : Room) (jm_Pc G S [.ref h0, .int x1]) (jm_Q G (some (.int rv)) Sf) 0 0 (jm_A G) := by
  refine Met.ofW (cc := cX8_crash) (maxL := 4) (ret := (some .int)) (by decide) rfl ?_
  intro p e s m args below meth c s₁ B hml hv
  obtain ⟨rfl, hJ, hX⟩ := hv
  have C : jm_C G cX8_crash 4 RX8 wsX8_crash ((some .int)) p s m _ meth c := ⟨B.exec, B.bytes, hml, findClass_of_methodNamed B.named, atoms_spec (ws := wsX8_crash) B.pre, B.returns, B.notSynchronized, hX⟩
  obtain ⟨ls, he, hl⟩ := jm_entry m [.inr (some h0), .inl x1] (n := 4) (Nat.le_of_ble_eq_true rfl)
  have he : entryFrame m ([.ref h0, .int x1] : List Value).toArray 4 = F0 m 0 ls [] := he
  rw [he]
  exact kX8_crash C h0 x1 hf hJ va_S.rf (hl.sub [0, 1] rfl)
/-! CoordinationServiceModel.restart -/
def fX8_restart (h0 : Nat) (x1 : Int32) : jm_P Int32 := jm_rd (jm_o (some h0) 9) fun a1 => jm_bd (fX8_isServer a1 x1) fun v1 => (if v1 = 0 then jm_ret (-1) else jm_rd (jm_gR (some h0) 9 1) fun v3 => jm_rd (jm_gi v3 1 x1) fun v4 => (if v4 = 0 then jm_rd (jm_gR (some h0) 9 1) fun v6 => jm_rd (jm_z 1) fun _ => jm_wr (jm_si v6 1 x1 1) <| jm_rd (jm_o (some h0) 9) fun a8 => jm_bd (fX8_ups a8) fun v8 => jm_ret v8 else jm_ret (-2)))
theorem inX8_restart_X8 : ∀ w ∈ wsX80, w ∈ wsX8_restart := fun _ h => List.mem_cons_of_mem _ (List.mem_append_right _ h)
theorem moX8_restart (h0 : Nat) (x1 : Int32) : jm_Mo (fX8_restart h0 x1) := by
  unfold fX8_restart
  exact jm_Mo_rd (fun _ => jm_Mo_bd (moX8_isServer _ _) (fun _ => jm_Mo_if (jm_Mo_ret _) (jm_Mo_rd (fun _ => jm_Mo_rd (fun _ => jm_Mo_if (jm_Mo_rd (fun _ => jm_Mo_rd (fun _ => jm_Mo_wr jm_si_st (jm_Mo_rd (fun _ => jm_Mo_bd (moX8_ups _) (fun _ => jm_Mo_ret _)))))) (jm_Mo_ret _))))))
set_option maxHeartbeats 4000000 in
set_option maxRecDepth 100000 in
theorem kX8_restart {rv : Int32} {Sf : jm_S} (C : jm_C G cX8_restart 2 RX8 wsX8_restart ((some .int)) p s m args meth c) : ∀ (h0 : Nat) (x1 : Int32) {S : jm_S} {H : Heap} {locs : List Loc} {ls : Array Slot}, fX8_restart h0 x1 S = some (rv, Sf) → jm_J G S H → va_S (jm_A G) s.heap H locs → jm_L ls 2 [(0, .inr (some h0)), (1, .inl x1)] → W p l e ({ frames := 2, cells := 0, slots := 0, locals := 46 } : Room) s m args below meth c H locs 0 0 (MQ below (jm_Q G (some (.int rv)) Sf) args s 0 0 (jm_A G)) (F0 m 0 ls []) := by
  intro h0 x1 S H locs ls hf hJ hS hl
  unfold fX8_restart at hf
  refine jw_aload_n C dX8_restart_0 rfl (hl.at 0 rfl) ?_
  refine lv_iload_n C.1 C.2.1 dX8_restart_1 rfl (hl.at 1 rfl) ?_
  obtain ⟨a1, o1, hf⟩ := jm_rd_ok hf
  obtain ⟨v1, S1, h1, hf⟩ := jm_bd_ok hf
  refine jw_cV (q := (RX8, TX8, 29)) C hJ hS o1 rfl (cX8_isServer_C l G a1 x1 h1) (cwV 1 C.2.2.2.2.1 gX8_restart_X8_isServer rfl rfl rfl (by decide +kernel) ⟨Nat.le_of_ble_eq_true rfl, Nat.le_of_ble_eq_true rfl⟩) rfl hl.1 rfl (Nat.le_of_ble_eq_true rfl) dX8_restart_2 ⟨Nat.le_refl _, Nat.le_refl _⟩ (fun H locs hJ hS => ?_)
  refine lv_if_ne (tgt := 10) C.1 C.2.1 dX8_restart_5 (by decide) (fun hq2 => ?_) (fun hq2 => ?_)
  · replace hf := jm_iff hf hq2
    refine jw_aload_n C dX8_restart_10 rfl (hl.at 0 rfl) ?_
    obtain ⟨v3, h3, hf⟩ := jm_rd_ok hf
    refine jw_gR (Cn := RX8) (T := TX8) (N := 29) C hJ h3 rfl inX8_restart_X8 (by decide) (jm_w C 1 rfl) (fun _ h => h) dX8_restart_11 ?_
    refine lv_iload_n C.1 C.2.1 dX8_restart_14 rfl (hl.at 1 rfl) ?_
    obtain ⟨v4, h4, hf⟩ := jm_rd_ok hf
    refine jw_zaload C hJ h4 dX8_restart_15 ?_
    refine lv_if_eq (tgt := 22) C.1 C.2.1 dX8_restart_16 (by decide) (fun hq5 => ?_) (fun hq5 => ?_)
    · replace hf := jm_ift hf hq5
      refine jw_aload_n C dX8_restart_22 rfl (hl.at 0 rfl) ?_
      obtain ⟨v6, h6, hf⟩ := jm_rd_ok hf
      refine jw_gR (Cn := RX8) (T := TX8) (N := 29) C hJ h6 rfl inX8_restart_X8 (by decide) (jm_w C 1 rfl) (fun _ h => h) dX8_restart_23 ?_
      refine lv_iload_n C.1 C.2.1 dX8_restart_26 rfl (hl.at 1 rfl) ?_
      refine lv_iconst (v := 1) C.1 C.2.1 dX8_restart_27 (by decide) ?_
      obtain ⟨u7, z7, hf⟩ := jm_rd_ok hf
      obtain ⟨S7, h7, hf⟩ := jm_wr_ok hf
      refine jw_zastore C hJ hS z7 h7 dX8_restart_28 (fun H locs hJ hS => ?_)
      refine jw_aload_n C dX8_restart_29 rfl (hl.at 0 rfl) ?_
      obtain ⟨a8, o8, hf⟩ := jm_rd_ok hf
      obtain ⟨v8, S8, h8, hf⟩ := jm_bd_ok hf
      refine jw_cV (q := (RX8, TX8, 29)) C hJ hS o8 rfl (cX8_ups_C l G a8 h8) (cwV 0 C.2.2.2.2.1 gX8_restart_X8_ups rfl rfl rfl (by decide +kernel) ⟨Nat.le_of_ble_eq_true rfl, Nat.le_of_ble_eq_true rfl⟩) rfl hl.1 rfl (Nat.le_of_ble_eq_true rfl) dX8_restart_30 ⟨Nat.le_refl _, Nat.le_refl _⟩ (fun H locs hJ hS => ?_)
      obtain ⟨rfl, rfl⟩ := jm_ret_ok hf
      exact jw_ri C hJ hS (Nat.le_refl _) (Nat.le_refl _) dX8_restart_33
    · replace hf := jm_iff hf hq5
      refine lv_bipush (v := (-2)) C.1 C.2.1 dX8_restart_19 (by decide) ?_
      obtain ⟨rfl, rfl⟩ := jm_ret_ok hf
      exact jw_ri C hJ hS (Nat.le_refl _) (Nat.le_refl _) dX8_restart_21
  · replace hf := jm_ift hf hq2
    refine lv_iconst (v := (-1)) C.1 C.2.1 dX8_restart_8 (by decide) ?_
    obtain ⟨rfl, rfl⟩ := jm_ret_ok hf
    exact jw_ri C hJ hS (Nat.le_refl _) (Nat.le_refl _) dX8_restart_9
set_option maxHeartbeats 4000000 in
set_option maxRecDepth 100000 in
theorem cX8_restart_C (l : Launch) (G : jm_G) (h0 : Nat) (x1 : Int32) {S Sf : jm_S} {rv : Int32} (hf : fX8_restart h0 x1 S = some (rv, Sf)) : Met l yX8_restart wsX8_restart ({ frames := 2, cells := 0, slots := 0, locals := 46 } : Room) (jm_Pc G S [.ref h0, .int x1]) (jm_Q G (some (.int rv)) Sf) 0 0 (jm_A G) := by
  refine Met.ofW (cc := cX8_restart) (maxL := 2) (ret := (some .int)) (by decide) rfl ?_
  intro p e s m args below meth c s₁ B hml hv
  obtain ⟨rfl, hJ, hX⟩ := hv
  have C : jm_C G cX8_restart 2 RX8 wsX8_restart ((some .int)) p s m _ meth c := ⟨B.exec, B.bytes, hml, findClass_of_methodNamed B.named, atoms_spec (ws := wsX8_restart) B.pre, B.returns, B.notSynchronized, hX⟩
  obtain ⟨ls, he, hl⟩ := jm_entry m [.inr (some h0), .inl x1] (n := 2) (Nat.le_of_ble_eq_true rfl)
  have he : entryFrame m ([.ref h0, .int x1] : List Value).toArray 2 = F0 m 0 ls [] := he
  rw [he]
  exact kX8_restart C h0 x1 hf hJ va_S.rf (hl.sub [0, 1] rfl)
end JG
