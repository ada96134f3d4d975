section JG
variable {p : Program} {l : Launch} {e : Env} {s : State} {m : MethodId} {args : Array Value} {below : List Frame} {meth : Method} {c : Code} {G : jm_G}
/-! CoordinationServiceModel.elect -/
def fX8_elect_280 : Nat → Nat → Int32 → jm_P Int32
  | 0, _, _ => jm_no
  | n + 1, h0, x1 => jm_rd (jm_gI (some h0) 9 0) fun v23 => (if v23 ≤ x1 then jm_rd (jm_gI (some h0) 9 5) fun v25 => jm_ret v25 else jm_rd (jm_gR (some h0) 9 2) fun v26 => jm_rd (jm_gi v26 1 x1) fun v27 => (if v27 = 0 then fX8_elect_280 n h0 (x1 + 1) else jm_rd (jm_gI (some h0) 9 8) fun v29 => jm_rd (jm_o (some h0) 9) fun a30 => jm_bd (fX8_goesOn a30 x1 v29) fun v30 => fX8_elect_280 n h0 (x1 + 1)))
def fX8_elect_245 : Nat → Nat → Int32 → jm_P Int32
  | 0, _, _ => jm_no
  | n + 1, h0, x1 => jm_rd (jm_gI (some h0) 9 0) fun v21 => (if v21 ≤ x1 then fX8_elect_280 4096 h0 0 else jm_rd (jm_gR (some h0) 9 2) fun v31 => jm_rd (jm_gi v31 1 x1) fun v32 => (if v32 = 0 then fX8_elect_245 n h0 (x1 + 1) else jm_rd (jm_gR (some h0) 9 3) fun v34 => jm_rd (jm_gI (some h0) 9 6) fun v35 => jm_wr (jm_si v34 0 x1 v35) <| fX8_elect_245 n h0 (x1 + 1)))
def fX8_elect_183 : Nat → Nat → Int32 → jm_P Int32
  | 0, _, _ => jm_no
  | n + 1, h0, x1 => jm_rd (jm_gI (some h0) 9 0) fun v12 => (if v12 ≤ x1 then jm_rd (jm_gR (some h0) 9 2) fun v14 => jm_rd (jm_gI (some h0) 9 5) fun v15 => jm_rd (jm_z 1) fun _ => jm_wr (jm_si v14 1 v15 1) <| jm_rd (jm_gR (some h0) 9 9) fun v17 => jm_rd (jm_gI (some h0) 9 5) fun v18 => jm_rd (jm_gi v17 0 v18) fun v19 => jm_wr (jm_p (some h0) 9 8 (.inl v19)) <| fX8_elect_245 4096 h0 0 else jm_rd (jm_gR (some h0) 9 1) fun v37 => jm_rd (jm_gi v37 1 x1) fun v38 => (if v38 = 0 then fX8_elect_183 n h0 (x1 + 1) else jm_rd (jm_gI (some h0) 9 5) fun v40 => (if x1 = v40 then fX8_elect_183 n h0 (x1 + 1) else jm_rd (jm_o (some h0) 9) fun a42 => jm_bd (fX8_becomesLike a42 x1) fun v42 => fX8_elect_183 n h0 (x1 + 1))))
def fX8_elect_127 (k30 : Nat → Int32 → jm_P Int32) (h0 : Nat) (x1 : Int32) (y0 : Int32) : jm_P Int32 := jm_wr (jm_p (some h0) 9 5 (.inl y0)) <| jm_rd (jm_gR (some h0) 9 3) fun v51 => jm_rd (jm_gi v51 0 x1) fun v52 => jm_rd (jm_gI (some h0) 9 6) fun v53 => (if v52 ≤ v53 then jm_rd (jm_gI (some h0) 9 6) fun v55 => jm_wr (jm_p (some h0) 9 6 (.inl v55)) <| k30 h0 (x1 + 1) else jm_rd (jm_gR (some h0) 9 3) fun v57 => jm_rd (jm_gi v57 0 x1) fun v58 => jm_wr (jm_p (some h0) 9 6 (.inl v58)) <| k30 h0 (x1 + 1))
def fX8_elect_113 (k30 : Nat → Int32 → jm_P Int32) (h0 : Nat) (x1 : Int32) (y0 : Int32) : jm_P Int32 := (if y0 = 0 then jm_rd (jm_gI (some h0) 9 5) fun v49 => fX8_elect_127 k30 h0 x1 v49 else fX8_elect_127 k30 h0 x1 x1)
def fX8_elect_108 (k30 : Nat → Int32 → jm_P Int32) (h0 : Nat) (x1 : Int32) : jm_P Int32 := fX8_elect_113 k30 h0 x1 1
def fX8_elect_112 (k30 : Nat → Int32 → jm_P Int32) (h0 : Nat) (x1 : Int32) : jm_P Int32 := fX8_elect_113 k30 h0 x1 0
def fX8_elect_30 : Nat → Nat → Int32 → jm_P Int32
  | 0, _, _ => jm_no
  | n + 1, h0, x1 => jm_rd (jm_gI (some h0) 9 0) fun v7 => (if v7 ≤ x1 then jm_rd (jm_gI (some h0) 9 6) fun v9 => jm_wr (jm_p (some h0) 9 6 (.inl (v9 + 1))) <| jm_wr (jm_p (some h0) 9 7 (.inl 0)) <| fX8_elect_183 4096 h0 0 else jm_rd (jm_gR (some h0) 9 1) fun v43 => jm_rd (jm_gi v43 1 x1) fun v44 => (if v44 = 0 then fX8_elect_30 n h0 (x1 + 1) else jm_rd (jm_gI (some h0) 9 5) fun v46 => (if v46 = (-8) then fX8_elect_108 (fun h0 x1 => fX8_elect_30 n h0 x1) h0 x1 else jm_rd (jm_gR (some h0) 9 3) fun v60 => jm_rd (jm_gi v60 0 x1) fun v61 => jm_rd (jm_gR (some h0) 9 3) fun v62 => jm_rd (jm_gI (some h0) 9 5) fun v63 => jm_rd (jm_gi v62 0 v63) fun v64 => (if v64 < v61 then fX8_elect_108 (fun h0 x1 => fX8_elect_30 n h0 x1) h0 x1 else jm_rd (jm_gR (some h0) 9 3) fun v66 => jm_rd (jm_gi v66 0 x1) fun v67 => jm_rd (jm_gR (some h0) 9 3) fun v68 => jm_rd (jm_gI (some h0) 9 5) fun v69 => jm_rd (jm_gi v68 0 v69) fun v70 => (if v67 = v70 then jm_rd (jm_o (some h0) 9) fun a72 => jm_bd (fX8_lastOfLog a72 x1) fun v72 => jm_rd (jm_gI (some h0) 9 5) fun v73 => jm_rd (jm_o (some h0) 9) fun a74 => jm_bd (fX8_lastOfLog a74 v73) fun v74 => (if v72 < v74 then fX8_elect_112 (fun h0 x1 => fX8_elect_30 n h0 x1) h0 x1 else fX8_elect_108 (fun h0 x1 => fX8_elect_30 n h0 x1) h0 x1) else fX8_elect_112 (fun h0 x1 => fX8_elect_30 n h0 x1) h0 x1)))))
def fX8_elect (h0 : Nat) : jm_P Int32 := jm_rd (jm_gI (some h0) 9 5) fun v1 => (if v1 = (-8) then jm_rd (jm_o (some h0) 9) fun a3 => jm_bd (fX8_ups a3) fun v3 => jm_rd (jm_o (some h0) 9) fun a4 => jm_bd (fX8_quorum a4) fun v4 => (if v4 ≤ v3 then jm_wr (jm_p (some h0) 9 6 (.inl 0)) <| fX8_elect_30 4096 h0 0 else jm_ret (-2)) else jm_ret (-2))
theorem inX8_elect_X8 : ∀ w ∈ wsX80, w ∈ wsX8_elect := fun _ h => List.mem_cons_of_mem _ (List.mem_append_right _ h)
theorem moX8_elect_280 : ∀ (n : Nat) (h0 : Nat) (x1 : Int32), jm_Mo (fX8_elect_280 n h0 x1) := by
  intro n
  induction n with
  | zero =>
    intro h0 x1
    rw [fX8_elect_280]
    exact jm_Mo_no
  | succ n ih =>
    intro h0 x1
    rw [fX8_elect_280]
    exact jm_Mo_rd (fun _ => jm_Mo_if (jm_Mo_rd (fun _ => jm_Mo_ret _)) (jm_Mo_rd (fun _ => jm_Mo_rd (fun _ => jm_Mo_if (ih _ _) (jm_Mo_rd (fun _ => jm_Mo_rd (fun _ => jm_Mo_bd (moX8_goesOn _ _ _) (fun _ => ih _ _))))))))
set_option maxHeartbeats 4000000 in
set_option maxRecDepth 100000 in
theorem kX8_elect_280 {rv : Int32} {Sf : jm_S} (C : jm_C G cX8_elect 3 RX8 wsX8_elect ((some .int)) p s m args meth c) : ∀ (n : Nat) (h0 : Nat) (x1 : Int32) {S : jm_S} {H : Heap} {locs : List Loc} {ls : Array Slot}, fX8_elect_280 n h0 x1 S = some (rv, Sf) → jm_J G S H → va_S (jm_A G) s.heap H locs → jm_L ls 3 [(0, .inr (some h0)), (1, .inl x1)] → W p l e ({ frames := 3, cells := 0, slots := 0, locals := 77 } : Room) s m args below meth c H locs 0 0 (MQ below (jm_Q G (some (.int rv)) Sf) args s 0 0 (jm_A G)) (F0 m 280 ls []) := by
  intro n
  induction n with
  | zero =>
    intro h0 x1 S H locs ls hf
    rw [fX8_elect_280] at hf
    exact absurd hf (fun h => jm_no_ok h)
  | succ n ih =>
    intro h0 x1 S H locs ls hf hJ hS hl
    rw [fX8_elect_280] at hf
    refine lv_iload_n C.1 C.2.1 dX8_elect_280 rfl (hl.at 1 rfl) ?_
    refine jw_aload_n C dX8_elect_281 rfl (hl.at 0 rfl) ?_
    obtain ⟨v23, h23, hf⟩ := jm_rd_ok hf
    refine jw_gI (Cn := RX8) (T := TX8) (N := 29) C hJ h23 rfl inX8_elect_X8 (by decide) (jm_w C 3 rfl) (fun _ h => h) dX8_elect_282 ?_
    refine lv_icmp_ge (tgt := 313) C.1 C.2.1 dX8_elect_285 (by decide) (fun hq24 => ?_) (fun hq24 => ?_)
    · replace hf := jm_ift hf hq24
      refine jw_aload_n C dX8_elect_313 rfl (hl.at 0 rfl) ?_
      obtain ⟨v25, h25, hf⟩ := jm_rd_ok hf
      refine jw_gI (Cn := RX8) (T := TX8) (N := 29) C hJ h25 rfl inX8_elect_X8 (by decide) (jm_w C 1 rfl) (fun _ h => h) dX8_elect_314 ?_
      obtain ⟨rfl, rfl⟩ := jm_ret_ok hf
      exact jw_ri C hJ hS (Nat.le_refl _) (Nat.le_refl _) dX8_elect_317
    · replace hf := jm_iff hf hq24
      refine jw_aload_n C dX8_elect_288 rfl (hl.at 0 rfl) ?_
      obtain ⟨v26, h26, hf⟩ := jm_rd_ok hf
      refine jw_gR (Cn := RX8) (T := TX8) (N := 29) C hJ h26 rfl inX8_elect_X8 (by decide) (jm_w C 7 rfl) (fun _ h => h) dX8_elect_289 ?_
      refine lv_iload_n C.1 C.2.1 dX8_elect_292 rfl (hl.at 1 rfl) ?_
      obtain ⟨v27, h27, hf⟩ := jm_rd_ok hf
      refine jw_zaload C hJ h27 dX8_elect_293 ?_
      refine lv_if_eq (tgt := 307) C.1 C.2.1 dX8_elect_294 (by decide) (fun hq28 => ?_) (fun hq28 => ?_)
      · replace hf := jm_ift hf hq28
        refine jw_iinc (v := x1 + 1) C 1 dX8_elect_307 hl rfl (by rfl) (by decide) rfl (fun ls hl => ?_)
        refine lv_goto (tgt := 280) C.1 C.2.1 dX8_elect_310 (by decide) ?_
        exact ih h0 (x1 + 1) hf hJ hS (hl.sub [1, 0] rfl)
      · replace hf := jm_iff hf hq28
        refine jw_aload_n C dX8_elect_297 rfl (hl.at 0 rfl) ?_
        refine lv_iload_n C.1 C.2.1 dX8_elect_298 rfl (hl.at 1 rfl) ?_
        refine jw_aload_n C dX8_elect_299 rfl (hl.at 0 rfl) ?_
        obtain ⟨v29, h29, hf⟩ := jm_rd_ok hf
        refine jw_gI (Cn := RX8) (T := TX8) (N := 29) C hJ h29 rfl inX8_elect_X8 (by decide) (jm_w C 9 rfl) (fun _ h => h) dX8_elect_300 ?_
        obtain ⟨a30, o30, hf⟩ := jm_rd_ok hf
        obtain ⟨v30, S30, h30, hf⟩ := jm_bd_ok hf
        refine jw_cV (q := (RX8, TX8, 29)) C hJ hS o30 rfl (cX8_goesOn_C l G a30 x1 v29 h30) (cwV 2 C.2.2.2.2.1 gX8_elect_X8_goesOn rfl rfl rfl (by decide +kernel) ⟨Nat.le_of_ble_eq_true rfl, Nat.le_of_ble_eq_true rfl⟩) rfl hl.1 rfl (Nat.le_of_ble_eq_true rfl) dX8_elect_303 ⟨Nat.le_refl _, Nat.le_refl _⟩ (fun H locs hJ hS => ?_)
        refine lv_pop C.1 C.2.1 dX8_elect_306 rfl ?_
        refine jw_iinc (v := x1 + 1) C 1 dX8_elect_307 hl rfl (by rfl) (by decide) rfl (fun ls hl => ?_)
        refine lv_goto (tgt := 280) C.1 C.2.1 dX8_elect_310 (by decide) ?_
        exact ih h0 (x1 + 1) hf hJ hS (hl.sub [1, 0] rfl)
theorem moX8_elect_245 : ∀ (n : Nat) (h0 : Nat) (x1 : Int32), jm_Mo (fX8_elect_245 n h0 x1) := by
  intro n
  induction n with
  | zero =>
    intro h0 x1
    rw [fX8_elect_245]
    exact jm_Mo_no
  | succ n ih =>
    intro h0 x1
    rw [fX8_elect_245]
    exact jm_Mo_rd (fun _ => jm_Mo_if (moX8_elect_280 _ _ _) (jm_Mo_rd (fun _ => jm_Mo_rd (fun _ => jm_Mo_if (ih _ _) (jm_Mo_rd (fun _ => jm_Mo_rd (fun _ => jm_Mo_wr jm_si_st (ih _ _))))))))
set_option maxHeartbeats 4000000 in
set_option maxRecDepth 100000 in
theorem kX8_elect_245 {rv : Int32} {Sf : jm_S} (C : jm_C G cX8_elect 3 RX8 wsX8_elect ((some .int)) p s m args meth c) : ∀ (n : Nat) (h0 : Nat) (x1 : Int32) {S : jm_S} {H : Heap} {locs : List Loc} {ls : Array Slot}, fX8_elect_245 n h0 x1 S = some (rv, Sf) → jm_J G S H → va_S (jm_A G) s.heap H locs → jm_L ls 3 [(0, .inr (some h0)), (1, .inl x1)] → W p l e ({ frames := 3, cells := 0, slots := 0, locals := 77 } : Room) s m args below meth c H locs 0 0 (MQ below (jm_Q G (some (.int rv)) Sf) args s 0 0 (jm_A G)) (F0 m 245 ls []) := by
  intro n
  induction n with
  | zero =>
    intro h0 x1 S H locs ls hf
    rw [fX8_elect_245] at hf
    exact absurd hf (fun h => jm_no_ok h)
  | succ n ih =>
    intro h0 x1 S H locs ls hf hJ hS hl
    rw [fX8_elect_245] at hf
    refine lv_iload_n C.1 C.2.1 dX8_elect_245 rfl (hl.at 1 rfl) ?_
    refine jw_aload_n C dX8_elect_246 rfl (hl.at 0 rfl) ?_
    obtain ⟨v21, h21, hf⟩ := jm_rd_ok hf
    refine jw_gI (Cn := RX8) (T := TX8) (N := 29) C hJ h21 rfl inX8_elect_X8 (by decide) (jm_w C 3 rfl) (fun _ h => h) dX8_elect_247 ?_
    refine lv_icmp_ge (tgt := 278) C.1 C.2.1 dX8_elect_250 (by decide) (fun hq22 => ?_) (fun hq22 => ?_)
    · replace hf := jm_ift hf hq22
      refine lv_iconst (v := 0) C.1 C.2.1 dX8_elect_278 (by decide) ?_
      refine jw_istore_n C dX8_elect_279 rfl hl (by decide) rfl (fun ls hl => ?_)
      exact kX8_elect_280 C 4096 h0 0 hf hJ hS (hl.sub [1, 0] rfl)
    · replace hf := jm_iff hf hq22
      refine jw_aload_n C dX8_elect_253 rfl (hl.at 0 rfl) ?_
      obtain ⟨v31, h31, hf⟩ := jm_rd_ok hf
      refine jw_gR (Cn := RX8) (T := TX8) (N := 29) C hJ h31 rfl inX8_elect_X8 (by decide) (jm_w C 7 rfl) (fun _ h => h) dX8_elect_254 ?_
      refine lv_iload_n C.1 C.2.1 dX8_elect_257 rfl (hl.at 1 rfl) ?_
      obtain ⟨v32, h32, hf⟩ := jm_rd_ok hf
      refine jw_zaload C hJ h32 dX8_elect_258 ?_
      refine lv_if_eq (tgt := 272) C.1 C.2.1 dX8_elect_259 (by decide) (fun hq33 => ?_) (fun hq33 => ?_)
      · replace hf := jm_ift hf hq33
        refine jw_iinc (v := x1 + 1) C 1 dX8_elect_272 hl rfl (by rfl) (by decide) rfl (fun ls hl => ?_)
        refine lv_goto (tgt := 245) C.1 C.2.1 dX8_elect_275 (by decide) ?_
        exact ih h0 (x1 + 1) hf hJ hS (hl.sub [1, 0] rfl)
      · replace hf := jm_iff hf hq33
        refine jw_aload_n C dX8_elect_262 rfl (hl.at 0 rfl) ?_
        obtain ⟨v34, h34, hf⟩ := jm_rd_ok hf
        refine jw_gR (Cn := RX8) (T := TX8) (N := 29) C hJ h34 rfl inX8_elect_X8 (by decide) (jm_w C 5 rfl) (fun _ h => h) dX8_elect_263 ?_
        refine lv_iload_n C.1 C.2.1 dX8_elect_266 rfl (hl.at 1 rfl) ?_
        refine jw_aload_n C dX8_elect_267 rfl (hl.at 0 rfl) ?_
        obtain ⟨v35, h35, hf⟩ := jm_rd_ok hf
        refine jw_gI (Cn := RX8) (T := TX8) (N := 29) C hJ h35 rfl inX8_elect_X8 (by decide) (jm_w C 2 rfl) (fun _ h => h) dX8_elect_268 ?_
        obtain ⟨S36, h36, hf⟩ := jm_wr_ok hf
        refine jw_iastore C hJ hS h36 dX8_elect_271 (fun H locs hJ hS => ?_)
        refine jw_iinc (v := x1 + 1) C 1 dX8_elect_272 hl rfl (by rfl) (by decide) rfl (fun ls hl => ?_)
        refine lv_goto (tgt := 245) C.1 C.2.1 dX8_elect_275 (by decide) ?_
        exact ih h0 (x1 + 1) hf hJ hS (hl.sub [1, 0] rfl)
theorem moX8_elect_183 : ∀ (n : Nat) (h0 : Nat) (x1 : Int32), jm_Mo (fX8_elect_183 n h0 x1) := by
  intro n
  induction n with
  | zero =>
    intro h0 x1
    rw [fX8_elect_183]
    exact jm_Mo_no
  | succ n ih =>
    intro h0 x1
    rw [fX8_elect_183]
    exact jm_Mo_rd (fun _ => jm_Mo_if (jm_Mo_rd (fun _ => jm_Mo_rd (fun _ => jm_Mo_rd (fun _ => jm_Mo_wr jm_si_st (jm_Mo_rd (fun _ => jm_Mo_rd (fun _ => jm_Mo_rd (fun _ => jm_Mo_wr jm_p_st (moX8_elect_245 _ _ _))))))))) (jm_Mo_rd (fun _ => jm_Mo_rd (fun _ => jm_Mo_if (ih _ _) (jm_Mo_rd (fun _ => jm_Mo_if (ih _ _) (jm_Mo_rd (fun _ => jm_Mo_bd (moX8_becomesLike _ _) (fun _ => ih _ _)))))))))
set_option maxHeartbeats 4000000 in
set_option maxRecDepth 100000 in
theorem kX8_elect_183 {rv : Int32} {Sf : jm_S} (C : jm_C G cX8_elect 3 RX8 wsX8_elect ((some .int)) p s m args meth c) : ∀ (n : Nat) (h0 : Nat) (x1 : Int32) {S : jm_S} {H : Heap} {locs : List Loc} {ls : Array Slot}, fX8_elect_183 n h0 x1 S = some (rv, Sf) → jm_J G S H → va_S (jm_A G) s.heap H locs → jm_L ls 3 [(0, .inr (some h0)), (1, .inl x1)] → W p l e ({ frames := 3, cells := 0, slots := 0, locals := 77 } : Room) s m args below meth c H locs 0 0 (MQ below (jm_Q G (some (.int rv)) Sf) args s 0 0 (jm_A G)) (F0 m 183 ls []) := by
  intro n
  induction n with
  | zero =>
    intro h0 x1 S H locs ls hf
    rw [fX8_elect_183] at hf
    exact absurd hf (fun h => jm_no_ok h)
  | succ n ih =>
    intro h0 x1 S H locs ls hf hJ hS hl
    rw [fX8_elect_183] at hf
    refine lv_iload_n C.1 C.2.1 dX8_elect_183 rfl (hl.at 1 rfl) ?_
    refine jw_aload_n C dX8_elect_184 rfl (hl.at 0 rfl) ?_
    obtain ⟨v12, h12, hf⟩ := jm_rd_ok hf
    refine jw_gI (Cn := RX8) (T := TX8) (N := 29) C hJ h12 rfl inX8_elect_X8 (by decide) (jm_w C 3 rfl) (fun _ h => h) dX8_elect_185 ?_
    refine lv_icmp_ge (tgt := 220) C.1 C.2.1 dX8_elect_188 (by decide) (fun hq13 => ?_) (fun hq13 => ?_)
    · replace hf := jm_ift hf hq13
      refine jw_aload_n C dX8_elect_220 rfl (hl.at 0 rfl) ?_
      obtain ⟨v14, h14, hf⟩ := jm_rd_ok hf
      refine jw_gR (Cn := RX8) (T := TX8) (N := 29) C hJ h14 rfl inX8_elect_X8 (by decide) (jm_w C 7 rfl) (fun _ h => h) dX8_elect_221 ?_
      refine jw_aload_n C dX8_elect_224 rfl (hl.at 0 rfl) ?_
      obtain ⟨v15, h15, hf⟩ := jm_rd_ok hf
      refine jw_gI (Cn := RX8) (T := TX8) (N := 29) C hJ h15 rfl inX8_elect_X8 (by decide) (jm_w C 1 rfl) (fun _ h => h) dX8_elect_225 ?_
      refine lv_iconst (v := 1) C.1 C.2.1 dX8_elect_228 (by decide) ?_
      obtain ⟨u16, z16, hf⟩ := jm_rd_ok hf
      obtain ⟨S16, h16, hf⟩ := jm_wr_ok hf
      refine jw_zastore C hJ hS z16 h16 dX8_elect_229 (fun H locs hJ hS => ?_)
      refine jw_aload_n C dX8_elect_230 rfl (hl.at 0 rfl) ?_
      refine jw_aload_n C dX8_elect_231 rfl (hl.at 0 rfl) ?_
      obtain ⟨v17, h17, hf⟩ := jm_rd_ok hf
      refine jw_gR (Cn := RX8) (T := TX8) (N := 29) C hJ h17 rfl inX8_elect_X8 (by decide) (jm_w C 8 rfl) (fun _ h => h) dX8_elect_232 ?_
      refine jw_aload_n C dX8_elect_235 rfl (hl.at 0 rfl) ?_
      obtain ⟨v18, h18, hf⟩ := jm_rd_ok hf
      refine jw_gI (Cn := RX8) (T := TX8) (N := 29) C hJ h18 rfl inX8_elect_X8 (by decide) (jm_w C 1 rfl) (fun _ h => h) dX8_elect_236 ?_
      obtain ⟨v19, h19, hf⟩ := jm_rd_ok hf
      refine jw_iaload C hJ h19 dX8_elect_239 ?_
      obtain ⟨S20, h20, hf⟩ := jm_wr_ok hf
      refine jw_p (x := .inl v19) (ty := .int) (Cn := RX8) (T := TX8) (N := 29) C hJ hS h20 rfl inX8_elect_X8 tyX8 tyX8_ok nmX8 (by decide) (jm_w C 9 rfl) (fun _ h => h) rfl (by decide +kernel) rfl rfl dX8_elect_240 (fun H locs hJ hS => ?_)
      refine lv_iconst (v := 0) C.1 C.2.1 dX8_elect_243 (by decide) ?_
      refine jw_istore_n C dX8_elect_244 rfl hl (by decide) rfl (fun ls hl => ?_)
      exact kX8_elect_245 C 4096 h0 0 hf hJ hS (hl.sub [1, 0] rfl)
    · replace hf := jm_iff hf hq13
      refine jw_aload_n C dX8_elect_191 rfl (hl.at 0 rfl) ?_
      obtain ⟨v37, h37, hf⟩ := jm_rd_ok hf
      refine jw_gR (Cn := RX8) (T := TX8) (N := 29) C hJ h37 rfl inX8_elect_X8 (by decide) (jm_w C 4 rfl) (fun _ h => h) dX8_elect_192 ?_
      refine lv_iload_n C.1 C.2.1 dX8_elect_195 rfl (hl.at 1 rfl) ?_
      obtain ⟨v38, h38, hf⟩ := jm_rd_ok hf
      refine jw_zaload C hJ h38 dX8_elect_196 ?_
      refine lv_if_eq (tgt := 214) C.1 C.2.1 dX8_elect_197 (by decide) (fun hq39 => ?_) (fun hq39 => ?_)
      · replace hf := jm_ift hf hq39
        refine jw_iinc (v := x1 + 1) C 1 dX8_elect_214 hl rfl (by rfl) (by decide) rfl (fun ls hl => ?_)
        refine lv_goto (tgt := 183) C.1 C.2.1 dX8_elect_217 (by decide) ?_
        exact ih h0 (x1 + 1) hf hJ hS (hl.sub [1, 0] rfl)
      · replace hf := jm_iff hf hq39
        refine lv_iload_n C.1 C.2.1 dX8_elect_200 rfl (hl.at 1 rfl) ?_
        refine jw_aload_n C dX8_elect_201 rfl (hl.at 0 rfl) ?_
        obtain ⟨v40, h40, hf⟩ := jm_rd_ok hf
        refine jw_gI (Cn := RX8) (T := TX8) (N := 29) C hJ h40 rfl inX8_elect_X8 (by decide) (jm_w C 1 rfl) (fun _ h => h) dX8_elect_202 ?_
        refine lv_icmp_eq (tgt := 214) C.1 C.2.1 dX8_elect_205 (by decide) (fun hq41 => ?_) (fun hq41 => ?_)
        · replace hf := jm_ift hf hq41
          refine jw_iinc (v := x1 + 1) C 1 dX8_elect_214 hl rfl (by rfl) (by decide) rfl (fun ls hl => ?_)
          refine lv_goto (tgt := 183) C.1 C.2.1 dX8_elect_217 (by decide) ?_
          exact ih h0 (x1 + 1) hf hJ hS (hl.sub [1, 0] rfl)
        · replace hf := jm_iff hf hq41
          refine jw_aload_n C dX8_elect_208 rfl (hl.at 0 rfl) ?_
          refine lv_iload_n C.1 C.2.1 dX8_elect_209 rfl (hl.at 1 rfl) ?_
          obtain ⟨a42, o42, hf⟩ := jm_rd_ok hf
          obtain ⟨v42, S42, h42, hf⟩ := jm_bd_ok hf
          refine jw_cV (q := (RX8, TX8, 29)) C hJ hS o42 rfl (cX8_becomesLike_C l G a42 x1 h42) (cwV 1 C.2.2.2.2.1 gX8_elect_X8_becomesLike rfl rfl rfl (by decide +kernel) ⟨Nat.le_of_ble_eq_true rfl, Nat.le_of_ble_eq_true rfl⟩) rfl hl.1 rfl (Nat.le_of_ble_eq_true rfl) dX8_elect_210 ⟨Nat.le_refl _, Nat.le_refl _⟩ (fun H locs hJ hS => ?_)
          refine lv_pop C.1 C.2.1 dX8_elect_213 rfl ?_
          refine jw_iinc (v := x1 + 1) C 1 dX8_elect_214 hl rfl (by rfl) (by decide) rfl (fun ls hl => ?_)
          refine lv_goto (tgt := 183) C.1 C.2.1 dX8_elect_217 (by decide) ?_
          exact ih h0 (x1 + 1) hf hJ hS (hl.sub [1, 0] rfl)
theorem moX8_elect_127 {k30 : Nat → Int32 → jm_P Int32} (hm30 : ∀ (h0 : Nat) (x1 : Int32), jm_Mo (k30 h0 x1)) (h0 : Nat) (x1 : Int32) (y0 : Int32) : jm_Mo (fX8_elect_127 k30 h0 x1 y0) := by
  unfold fX8_elect_127
  exact jm_Mo_wr jm_p_st (jm_Mo_rd (fun _ => jm_Mo_rd (fun _ => jm_Mo_rd (fun _ => jm_Mo_if (jm_Mo_rd (fun _ => jm_Mo_wr jm_p_st (hm30 _ _))) (jm_Mo_rd (fun _ => jm_Mo_rd (fun _ => jm_Mo_wr jm_p_st (hm30 _ _))))))))
set_option maxHeartbeats 4000000 in
set_option maxRecDepth 100000 in
theorem kX8_elect_127 {rv : Int32} {Sf : jm_S} (C : jm_C G cX8_elect 3 RX8 wsX8_elect ((some .int)) p s m args meth c) {k30 : Nat → Int32 → jm_P Int32} (hk30 : ∀ (h0 : Nat) (x1 : Int32) (S : jm_S) (H : Heap) (locs : List Loc) (ls : Array Slot), k30 h0 x1 S = some (rv, Sf) → jm_J G S H → va_S (jm_A G) s.heap H locs → jm_L ls 3 [(0, .inr (some h0)), (1, .inl x1)] → W p l e ({ frames := 3, cells := 0, slots := 0, locals := 77 } : Room) s m args below meth c H locs 0 0 (MQ below (jm_Q G (some (.int rv)) Sf) args s 0 0 (jm_A G)) (F0 m 30 ls [])) : ∀ (h0 : Nat) (x1 : Int32) (y0 : Int32) {S : jm_S} {H : Heap} {locs : List Loc} {ls : Array Slot}, fX8_elect_127 k30 h0 x1 y0 S = some (rv, Sf) → jm_J G S H → va_S (jm_A G) s.heap H locs → jm_L ls 3 [(0, .inr (some h0)), (1, .inl x1)] → W p l e ({ frames := 3, cells := 0, slots := 0, locals := 77 } : Room) s m args below meth c H locs 0 0 (MQ below (jm_Q G (some (.int rv)) Sf) args s 0 0 (jm_A G)) (F0 m 127 ls [.int y0, va_rf (some h0)]) := by
  intro h0 x1 y0 S H locs ls hf hJ hS hl
  unfold fX8_elect_127 at hf
  obtain ⟨S50, h50, hf⟩ := jm_wr_ok hf
  refine jw_p (x := .inl y0) (ty := .int) (Cn := RX8) (T := TX8) (N := 29) C hJ hS h50 rfl inX8_elect_X8 tyX8 tyX8_ok nmX8 (by decide) (jm_w C 1 rfl) (fun _ h => h) rfl (by decide +kernel) rfl rfl dX8_elect_127 (fun H locs hJ hS => ?_)
  refine jw_aload_n C dX8_elect_130 rfl (hl.at 0 rfl) ?_
  refine jw_aload_n C dX8_elect_131 rfl (hl.at 0 rfl) ?_
  obtain ⟨v51, h51, hf⟩ := jm_rd_ok hf
  refine jw_gR (Cn := RX8) (T := TX8) (N := 29) C hJ h51 rfl inX8_elect_X8 (by decide) (jm_w C 5 rfl) (fun _ h => h) dX8_elect_132 ?_
  refine lv_iload_n C.1 C.2.1 dX8_elect_135 rfl (hl.at 1 rfl) ?_
  obtain ⟨v52, h52, hf⟩ := jm_rd_ok hf
  refine jw_iaload C hJ h52 dX8_elect_136 ?_
  refine jw_aload_n C dX8_elect_137 rfl (hl.at 0 rfl) ?_
  obtain ⟨v53, h53, hf⟩ := jm_rd_ok hf
  refine jw_gI (Cn := RX8) (T := TX8) (N := 29) C hJ h53 rfl inX8_elect_X8 (by decide) (jm_w C 2 rfl) (fun _ h => h) dX8_elect_138 ?_
  refine lv_icmp_le (tgt := 153) C.1 C.2.1 dX8_elect_141 (by decide) (fun hq54 => ?_) (fun hq54 => ?_)
  · replace hf := jm_ift hf hq54
    refine jw_aload_n C dX8_elect_153 rfl (hl.at 0 rfl) ?_
    obtain ⟨v55, h55, hf⟩ := jm_rd_ok hf
    refine jw_gI (Cn := RX8) (T := TX8) (N := 29) C hJ h55 rfl inX8_elect_X8 (by decide) (jm_w C 2 rfl) (fun _ h => h) dX8_elect_154 ?_
    obtain ⟨S56, h56, hf⟩ := jm_wr_ok hf
    refine jw_p (x := .inl v55) (ty := .int) (Cn := RX8) (T := TX8) (N := 29) C hJ hS h56 rfl inX8_elect_X8 tyX8 tyX8_ok nmX8 (by decide) (jm_w C 2 rfl) (fun _ h => h) rfl (by decide +kernel) rfl rfl dX8_elect_157 (fun H locs hJ hS => ?_)
    refine jw_iinc (v := x1 + 1) C 1 dX8_elect_160 hl rfl (by rfl) (by decide) rfl (fun ls hl => ?_)
    refine lv_goto (tgt := 30) C.1 C.2.1 dX8_elect_163 (by decide) ?_
    exact hk30 h0 (x1 + 1) _ _ _ _ hf hJ hS (hl.sub [1, 0] rfl)
  · replace hf := jm_iff hf hq54
    refine jw_aload_n C dX8_elect_144 rfl (hl.at 0 rfl) ?_
    obtain ⟨v57, h57, hf⟩ := jm_rd_ok hf
    refine jw_gR (Cn := RX8) (T := TX8) (N := 29) C hJ h57 rfl inX8_elect_X8 (by decide) (jm_w C 5 rfl) (fun _ h => h) dX8_elect_145 ?_
    refine lv_iload_n C.1 C.2.1 dX8_elect_148 rfl (hl.at 1 rfl) ?_
    obtain ⟨v58, h58, hf⟩ := jm_rd_ok hf
    refine jw_iaload C hJ h58 dX8_elect_149 ?_
    refine lv_goto (tgt := 157) C.1 C.2.1 dX8_elect_150 (by decide) ?_
    obtain ⟨S59, h59, hf⟩ := jm_wr_ok hf
    refine jw_p (x := .inl v58) (ty := .int) (Cn := RX8) (T := TX8) (N := 29) C hJ hS h59 rfl inX8_elect_X8 tyX8 tyX8_ok nmX8 (by decide) (jm_w C 2 rfl) (fun _ h => h) rfl (by decide +kernel) rfl rfl dX8_elect_157 (fun H locs hJ hS => ?_)
    refine jw_iinc (v := x1 + 1) C 1 dX8_elect_160 hl rfl (by rfl) (by decide) rfl (fun ls hl => ?_)
    refine lv_goto (tgt := 30) C.1 C.2.1 dX8_elect_163 (by decide) ?_
    exact hk30 h0 (x1 + 1) _ _ _ _ hf hJ hS (hl.sub [1, 0] rfl)
theorem moX8_elect_113 {k30 : Nat → Int32 → jm_P Int32} (hm30 : ∀ (h0 : Nat) (x1 : Int32), jm_Mo (k30 h0 x1)) (h0 : Nat) (x1 : Int32) (y0 : Int32) : jm_Mo (fX8_elect_113 k30 h0 x1 y0) := by
  unfold fX8_elect_113
  exact jm_Mo_if (jm_Mo_rd (fun _ => moX8_elect_127 hm30 _ _ _)) (moX8_elect_127 hm30 _ _ _)
set_option maxHeartbeats 4000000 in
set_option maxRecDepth 100000 in
theorem kX8_elect_113 {rv : Int32} {Sf : jm_S} (C : jm_C G cX8_elect 3 RX8 wsX8_elect ((some .int)) p s m args meth c) {k30 : Nat → Int32 → jm_P Int32} (hk30 : ∀ (h0 : Nat) (x1 : Int32) (S : jm_S) (H : Heap) (locs : List Loc) (ls : Array Slot), k30 h0 x1 S = some (rv, Sf) → jm_J G S H → va_S (jm_A G) s.heap H locs → jm_L ls 3 [(0, .inr (some h0)), (1, .inl x1)] → W p l e ({ frames := 3, cells := 0, slots := 0, locals := 77 } : Room) s m args below meth c H locs 0 0 (MQ below (jm_Q G (some (.int rv)) Sf) args s 0 0 (jm_A G)) (F0 m 30 ls [])) : ∀ (h0 : Nat) (x1 : Int32) (y0 : Int32) {S : jm_S} {H : Heap} {locs : List Loc} {ls : Array Slot}, fX8_elect_113 k30 h0 x1 y0 S = some (rv, Sf) → jm_J G S H → va_S (jm_A G) s.heap H locs → jm_L ls 3 [(0, .inr (some h0)), (1, .inl x1)] → W p l e ({ frames := 3, cells := 0, slots := 0, locals := 77 } : Room) s m args below meth c H locs 0 0 (MQ below (jm_Q G (some (.int rv)) Sf) args s 0 0 (jm_A G)) (F0 m 113 ls [.int y0]) := by
  intro h0 x1 y0 S H locs ls hf hJ hS hl
  unfold fX8_elect_113 at hf
  refine jw_istore_n C dX8_elect_113 rfl hl (by decide) rfl (fun ls hl => ?_)
  refine jw_aload_n C dX8_elect_114 rfl (hl.at 1 rfl) ?_
  refine lv_iload_n C.1 C.2.1 dX8_elect_115 rfl (hl.at 0 rfl) ?_
  refine lv_if_eq (tgt := 123) C.1 C.2.1 dX8_elect_116 (by decide) (fun hq48 => ?_) (fun hq48 => ?_)
  · replace hf := jm_ift hf hq48
    refine jw_aload_n C dX8_elect_123 rfl (hl.at 1 rfl) ?_
    obtain ⟨v49, h49, hf⟩ := jm_rd_ok hf
    refine jw_gI (Cn := RX8) (T := TX8) (N := 29) C hJ h49 rfl inX8_elect_X8 (by decide) (jm_w C 1 rfl) (fun _ h => h) dX8_elect_124 ?_
    exact kX8_elect_127 C hk30 h0 x1 v49 hf hJ hS (hl.sub [1, 2] rfl)
  · replace hf := jm_iff hf hq48
    refine lv_iload_n C.1 C.2.1 dX8_elect_119 rfl (hl.at 2 rfl) ?_
    refine lv_goto (tgt := 127) C.1 C.2.1 dX8_elect_120 (by decide) ?_
    exact kX8_elect_127 C hk30 h0 x1 x1 hf hJ hS (hl.sub [1, 2] rfl)
theorem moX8_elect_108 {k30 : Nat → Int32 → jm_P Int32} (hm30 : ∀ (h0 : Nat) (x1 : Int32), jm_Mo (k30 h0 x1)) (h0 : Nat) (x1 : Int32) : jm_Mo (fX8_elect_108 k30 h0 x1) := by
  unfold fX8_elect_108
  exact moX8_elect_113 hm30 _ _ _
set_option maxHeartbeats 4000000 in
set_option maxRecDepth 100000 in
theorem kX8_elect_108 {rv : Int32} {Sf : jm_S} (C : jm_C G cX8_elect 3 RX8 wsX8_elect ((some .int)) p s m args meth c) {k30 : Nat → Int32 → jm_P Int32} (hk30 : ∀ (h0 : Nat) (x1 : Int32) (S : jm_S) (H : Heap) (locs : List Loc) (ls : Array Slot), k30 h0 x1 S = some (rv, Sf) → jm_J G S H → va_S (jm_A G) s.heap H locs → jm_L ls 3 [(0, .inr (some h0)), (1, .inl x1)] → W p l e ({ frames := 3, cells := 0, slots := 0, locals := 77 } : Room) s m args below meth c H locs 0 0 (MQ below (jm_Q G (some (.int rv)) Sf) args s 0 0 (jm_A G)) (F0 m 30 ls [])) : ∀ (h0 : Nat) (x1 : Int32) {S : jm_S} {H : Heap} {locs : List Loc} {ls : Array Slot}, fX8_elect_108 k30 h0 x1 S = some (rv, Sf) → jm_J G S H → va_S (jm_A G) s.heap H locs → jm_L ls 3 [(0, .inr (some h0)), (1, .inl x1)] → W p l e ({ frames := 3, cells := 0, slots := 0, locals := 77 } : Room) s m args below meth c H locs 0 0 (MQ below (jm_Q G (some (.int rv)) Sf) args s 0 0 (jm_A G)) (F0 m 108 ls []) := by
  intro h0 x1 S H locs ls hf hJ hS hl
  unfold fX8_elect_108 at hf
  refine lv_iconst (v := 1) C.1 C.2.1 dX8_elect_108 (by decide) ?_
  refine lv_goto (tgt := 113) C.1 C.2.1 dX8_elect_109 (by decide) ?_
  exact kX8_elect_113 C hk30 h0 x1 1 hf hJ hS (hl.sub [0, 1] rfl)
theorem moX8_elect_112 {k30 : Nat → Int32 → jm_P Int32} (hm30 : ∀ (h0 : Nat) (x1 : Int32), jm_Mo (k30 h0 x1)) (h0 : Nat) (x1 : Int32) : jm_Mo (fX8_elect_112 k30 h0 x1) := by
  unfold fX8_elect_112
  exact moX8_elect_113 hm30 _ _ _
set_option maxHeartbeats 4000000 in
set_option maxRecDepth 100000 in
theorem kX8_elect_112 {rv : Int32} {Sf : jm_S} (C : jm_C G cX8_elect 3 RX8 wsX8_elect ((some .int)) p s m args meth c) {k30 : Nat → Int32 → jm_P Int32} (hk30 : ∀ (h0 : Nat) (x1 : Int32) (S : jm_S) (H : Heap) (locs : List Loc) (ls : Array Slot), k30 h0 x1 S = some (rv, Sf) → jm_J G S H → va_S (jm_A G) s.heap H locs → jm_L ls 3 [(0, .inr (some h0)), (1, .inl x1)] → W p l e ({ frames := 3, cells := 0, slots := 0, locals := 77 } : Room) s m args below meth c H locs 0 0 (MQ below (jm_Q G (some (.int rv)) Sf) args s 0 0 (jm_A G)) (F0 m 30 ls [])) : ∀ (h0 : Nat) (x1 : Int32) {S : jm_S} {H : Heap} {locs : List Loc} {ls : Array Slot}, fX8_elect_112 k30 h0 x1 S = some (rv, Sf) → jm_J G S H → va_S (jm_A G) s.heap H locs → jm_L ls 3 [(0, .inr (some h0)), (1, .inl x1)] → W p l e ({ frames := 3, cells := 0, slots := 0, locals := 77 } : Room) s m args below meth c H locs 0 0 (MQ below (jm_Q G (some (.int rv)) Sf) args s 0 0 (jm_A G)) (F0 m 112 ls []) := by
  intro h0 x1 S H locs ls hf hJ hS hl
  unfold fX8_elect_112 at hf
  refine lv_iconst (v := 0) C.1 C.2.1 dX8_elect_112 (by decide) ?_
  exact kX8_elect_113 C hk30 h0 x1 0 hf hJ hS (hl.sub [0, 1] rfl)
theorem moX8_elect_30 : ∀ (n : Nat) (h0 : Nat) (x1 : Int32), jm_Mo (fX8_elect_30 n h0 x1) := by
  intro n
  induction n with
  | zero =>
    intro h0 x1
    rw [fX8_elect_30]
    exact jm_Mo_no
  | succ n ih =>
    intro h0 x1
    rw [fX8_elect_30]
    exact jm_Mo_rd (fun _ => jm_Mo_if (jm_Mo_rd (fun _ => jm_Mo_wr jm_p_st (jm_Mo_wr jm_p_st (moX8_elect_183 _ _ _)))) (jm_Mo_rd (fun _ => jm_Mo_rd (fun _ => jm_Mo_if (ih _ _) (jm_Mo_rd (fun _ => jm_Mo_if (moX8_elect_108 (fun _ _ => ih _ _) _ _) (jm_Mo_rd (fun _ => jm_Mo_rd (fun _ => jm_Mo_rd (fun _ => jm_Mo_rd (fun _ => jm_Mo_rd (fun _ => jm_Mo_if (moX8_elect_108 (fun _ _ => ih _ _) _ _) (jm_Mo_rd (fun _ => jm_Mo_rd (fun _ => jm_Mo_rd (fun _ => jm_Mo_rd (fun _ => jm_Mo_rd (fun _ => jm_Mo_if (jm_Mo_rd (fun _ => jm_Mo_bd (moX8_lastOfLog _ _) (fun _ => jm_Mo_rd (fun _ => jm_Mo_rd (fun _ => jm_Mo_bd (moX8_lastOfLog _ _) (fun _ => jm_Mo_if (moX8_elect_112 (fun _ _ => ih _ _) _ _) (moX8_elect_108 (fun _ _ => ih _ _) _ _))))))) (moX8_elect_112 (fun _ _ => ih _ _) _ _)))))))))))))))))))
set_option maxHeartbeats 4000000 in
set_option maxRecDepth 100000 in
theorem kX8_elect_30 {rv : Int32} {Sf : jm_S} (C : jm_C G cX8_elect 3 RX8 wsX8_elect ((some .int)) p s m args meth c) : ∀ (n : Nat) (h0 : Nat) (x1 : Int32) {S : jm_S} {H : Heap} {locs : List Loc} {ls : Array Slot}, fX8_elect_30 n h0 x1 S = some (rv, Sf) → jm_J G S H → va_S (jm_A G) s.heap H locs → jm_L ls 3 [(0, .inr (some h0)), (1, .inl x1)] → W p l e ({ frames := 3, cells := 0, slots := 0, locals := 77 } : Room) s m args below meth c H locs 0 0 (MQ below (jm_Q G (some (.int rv)) Sf) args s 0 0 (jm_A G)) (F0 m 30 ls []) := by
  intro n
  induction n with
  | zero =>
    intro h0 x1 S H locs ls hf
    rw [fX8_elect_30] at hf
    exact absurd hf (fun h => jm_no_ok h)
  | succ n ih =>
    intro h0 x1 S H locs ls hf hJ hS hl
    rw [fX8_elect_30] at hf
    refine lv_iload_n C.1 C.2.1 dX8_elect_30 rfl (hl.at 1 rfl) ?_
    refine jw_aload_n C dX8_elect_31 rfl (hl.at 0 rfl) ?_
    obtain ⟨v7, h7, hf⟩ := jm_rd_ok hf
    refine jw_gI (Cn := RX8) (T := TX8) (N := 29) C hJ h7 rfl inX8_elect_X8 (by decide) (jm_w C 3 rfl) (fun _ h => h) dX8_elect_32 ?_
    refine lv_icmp_ge (tgt := 166) C.1 C.2.1 dX8_elect_35 (by decide) (fun hq8 => ?_) (fun hq8 => ?_)
    · replace hf := jm_ift hf hq8
      refine jw_aload_n C dX8_elect_166 rfl (hl.at 0 rfl) ?_
      refine lv_dup C.1 C.2.1 dX8_elect_167 (jm_catr _) ?_
      obtain ⟨v9, h9, hf⟩ := jm_rd_ok hf
      refine jw_gI (Cn := RX8) (T := TX8) (N := 29) C hJ h9 rfl inX8_elect_X8 (by decide) (jm_w C 2 rfl) (fun _ h => h) dX8_elect_168 ?_
      refine lv_iconst (v := 1) C.1 C.2.1 dX8_elect_171 (by decide) ?_
      refine lv_iadd C.1 C.2.1 dX8_elect_172 ?_
      obtain ⟨S10, h10, hf⟩ := jm_wr_ok hf
      refine jw_p (x := .inl (v9 + 1)) (ty := .int) (Cn := RX8) (T := TX8) (N := 29) C hJ hS h10 rfl inX8_elect_X8 tyX8 tyX8_ok nmX8 (by decide) (jm_w C 2 rfl) (fun _ h => h) rfl (by decide +kernel) rfl rfl dX8_elect_173 (fun H locs hJ hS => ?_)
      refine jw_aload_n C dX8_elect_176 rfl (hl.at 0 rfl) ?_
      refine lv_iconst (v := 0) C.1 C.2.1 dX8_elect_177 (by decide) ?_
      obtain ⟨S11, h11, hf⟩ := jm_wr_ok hf
      refine jw_p (x := .inl 0) (ty := .int) (Cn := RX8) (T := TX8) (N := 29) C hJ hS h11 rfl inX8_elect_X8 tyX8 tyX8_ok nmX8 (by decide) (jm_w C 6 rfl) (fun _ h => h) rfl (by decide +kernel) rfl rfl dX8_elect_178 (fun H locs hJ hS => ?_)
      refine lv_iconst (v := 0) C.1 C.2.1 dX8_elect_181 (by decide) ?_
      refine jw_istore_n C dX8_elect_182 rfl hl (by decide) rfl (fun ls hl => ?_)
      exact kX8_elect_183 C 4096 h0 0 hf hJ hS (hl.sub [1, 0] rfl)
    · replace hf := jm_iff hf hq8
      refine jw_aload_n C dX8_elect_38 rfl (hl.at 0 rfl) ?_
      obtain ⟨v43, h43, hf⟩ := jm_rd_ok hf
      refine jw_gR (Cn := RX8) (T := TX8) (N := 29) C hJ h43 rfl inX8_elect_X8 (by decide) (jm_w C 4 rfl) (fun _ h => h) dX8_elect_39 ?_
      refine lv_iload_n C.1 C.2.1 dX8_elect_42 rfl (hl.at 1 rfl) ?_
      obtain ⟨v44, h44, hf⟩ := jm_rd_ok hf
      refine jw_zaload C hJ h44 dX8_elect_43 ?_
      refine lv_if_eq (tgt := 160) C.1 C.2.1 dX8_elect_44 (by decide) (fun hq45 => ?_) (fun hq45 => ?_)
      · replace hf := jm_ift hf hq45
        refine jw_iinc (v := x1 + 1) C 1 dX8_elect_160 hl rfl (by rfl) (by decide) rfl (fun ls hl => ?_)
        refine lv_goto (tgt := 30) C.1 C.2.1 dX8_elect_163 (by decide) ?_
        exact ih h0 (x1 + 1) hf hJ hS (hl.sub [1, 0] rfl)
      · replace hf := jm_iff hf hq45
        refine jw_aload_n C dX8_elect_47 rfl (hl.at 0 rfl) ?_
        obtain ⟨v46, h46, hf⟩ := jm_rd_ok hf
        refine jw_gI (Cn := RX8) (T := TX8) (N := 29) C hJ h46 rfl inX8_elect_X8 (by decide) (jm_w C 1 rfl) (fun _ h => h) dX8_elect_48 ?_
        refine lv_bipush (v := (-8)) C.1 C.2.1 dX8_elect_51 (by decide) ?_
        refine lv_icmp_eq (tgt := 108) C.1 C.2.1 dX8_elect_53 (by decide) (fun hq47 => ?_) (fun hq47 => ?_)
        · replace hf := jm_ift hf hq47
          exact kX8_elect_108 C (fun h0 x1 S H locs ls hf hJ hS hl => ih h0 x1 hf hJ hS hl) h0 x1 hf hJ hS (hl.sub [0, 1] rfl)
        · replace hf := jm_iff hf hq47
          refine jw_aload_n C dX8_elect_56 rfl (hl.at 0 rfl) ?_
          obtain ⟨v60, h60, hf⟩ := jm_rd_ok hf
          refine jw_gR (Cn := RX8) (T := TX8) (N := 29) C hJ h60 rfl inX8_elect_X8 (by decide) (jm_w C 5 rfl) (fun _ h => h) dX8_elect_57 ?_
          refine lv_iload_n C.1 C.2.1 dX8_elect_60 rfl (hl.at 1 rfl) ?_
          obtain ⟨v61, h61, hf⟩ := jm_rd_ok hf
          refine jw_iaload C hJ h61 dX8_elect_61 ?_
          refine jw_aload_n C dX8_elect_62 rfl (hl.at 0 rfl) ?_
          obtain ⟨v62, h62, hf⟩ := jm_rd_ok hf
          refine jw_gR (Cn := RX8) (T := TX8) (N := 29) C hJ h62 rfl inX8_elect_X8 (by decide) (jm_w C 5 rfl) (fun _ h => h) dX8_elect_63 ?_
          refine jw_aload_n C dX8_elect_66 rfl (hl.at 0 rfl) ?_
          obtain ⟨v63, h63, hf⟩ := jm_rd_ok hf
          refine jw_gI (Cn := RX8) (T := TX8) (N := 29) C hJ h63 rfl inX8_elect_X8 (by decide) (jm_w C 1 rfl) (fun _ h => h) dX8_elect_67 ?_
          obtain ⟨v64, h64, hf⟩ := jm_rd_ok hf
          refine jw_iaload C hJ h64 dX8_elect_70 ?_
          refine lv_icmp_gt (tgt := 108) C.1 C.2.1 dX8_elect_71 (by decide) (fun hq65 => ?_) (fun hq65 => ?_)
          · replace hf := jm_ift hf hq65
            exact kX8_elect_108 C (fun h0 x1 S H locs ls hf hJ hS hl => ih h0 x1 hf hJ hS hl) h0 x1 hf hJ hS (hl.sub [0, 1] rfl)
          · replace hf := jm_iff hf hq65
            refine jw_aload_n C dX8_elect_74 rfl (hl.at 0 rfl) ?_
            obtain ⟨v66, h66, hf⟩ := jm_rd_ok hf
            refine jw_gR (Cn := RX8) (T := TX8) (N := 29) C hJ h66 rfl inX8_elect_X8 (by decide) (jm_w C 5 rfl) (fun _ h => h) dX8_elect_75 ?_
            refine lv_iload_n C.1 C.2.1 dX8_elect_78 rfl (hl.at 1 rfl) ?_
            obtain ⟨v67, h67, hf⟩ := jm_rd_ok hf
            refine jw_iaload C hJ h67 dX8_elect_79 ?_
            refine jw_aload_n C dX8_elect_80 rfl (hl.at 0 rfl) ?_
            obtain ⟨v68, h68, hf⟩ := jm_rd_ok hf
            refine jw_gR (Cn := RX8) (T := TX8) (N := 29) C hJ h68 rfl inX8_elect_X8 (by decide) (jm_w C 5 rfl) (fun _ h => h) dX8_elect_81 ?_
            refine jw_aload_n C dX8_elect_84 rfl (hl.at 0 rfl) ?_
            obtain ⟨v69, h69, hf⟩ := jm_rd_ok hf
            refine jw_gI (Cn := RX8) (T := TX8) (N := 29) C hJ h69 rfl inX8_elect_X8 (by decide) (jm_w C 1 rfl) (fun _ h => h) dX8_elect_85 ?_
            obtain ⟨v70, h70, hf⟩ := jm_rd_ok hf
            refine jw_iaload C hJ h70 dX8_elect_88 ?_
            refine lv_icmp_ne (tgt := 112) C.1 C.2.1 dX8_elect_89 (by decide) (fun hq71 => ?_) (fun hq71 => ?_)
            · replace hf := jm_iff hf hq71
              exact kX8_elect_112 C (fun h0 x1 S H locs ls hf hJ hS hl => ih h0 x1 hf hJ hS hl) h0 x1 hf hJ hS (hl.sub [0, 1] rfl)
            · replace hf := jm_ift hf hq71
              refine jw_aload_n C dX8_elect_92 rfl (hl.at 0 rfl) ?_
              refine lv_iload_n C.1 C.2.1 dX8_elect_93 rfl (hl.at 1 rfl) ?_
              obtain ⟨a72, o72, hf⟩ := jm_rd_ok hf
              obtain ⟨v72, S72, h72, hf⟩ := jm_bd_ok hf
              refine jw_cV (q := (RX8, TX8, 29)) C hJ hS o72 rfl (cX8_lastOfLog_C l G a72 x1 h72) (cwV 1 C.2.2.2.2.1 gX8_elect_X8_lastOfLog rfl rfl rfl (by decide +kernel) ⟨Nat.le_of_ble_eq_true rfl, Nat.le_of_ble_eq_true rfl⟩) rfl hl.1 rfl (Nat.le_of_ble_eq_true rfl) dX8_elect_94 ⟨Nat.le_refl _, Nat.le_refl _⟩ (fun H locs hJ hS => ?_)
              refine jw_aload_n C dX8_elect_97 rfl (hl.at 0 rfl) ?_
              refine jw_aload_n C dX8_elect_98 rfl (hl.at 0 rfl) ?_
              obtain ⟨v73, h73, hf⟩ := jm_rd_ok hf
              refine jw_gI (Cn := RX8) (T := TX8) (N := 29) C hJ h73 rfl inX8_elect_X8 (by decide) (jm_w C 1 rfl) (fun _ h => h) dX8_elect_99 ?_
              obtain ⟨a74, o74, hf⟩ := jm_rd_ok hf
              obtain ⟨v74, S74, h74, hf⟩ := jm_bd_ok hf
              refine jw_cV (q := (RX8, TX8, 29)) C hJ hS o74 rfl (cX8_lastOfLog_C l G a74 v73 h74) (cwV 1 C.2.2.2.2.1 gX8_elect_X8_lastOfLog rfl rfl rfl (by decide +kernel) ⟨Nat.le_of_ble_eq_true rfl, Nat.le_of_ble_eq_true rfl⟩) rfl hl.1 rfl (Nat.le_of_ble_eq_true rfl) dX8_elect_102 ⟨Nat.le_refl _, Nat.le_refl _⟩ (fun H locs hJ hS => ?_)
              refine lv_icmp_lt (tgt := 112) C.1 C.2.1 dX8_elect_105 (by decide) (fun hq75 => ?_) (fun hq75 => ?_)
              · replace hf := jm_ift hf hq75
                exact kX8_elect_112 C (fun h0 x1 S H locs ls hf hJ hS hl => ih h0 x1 hf hJ hS hl) h0 x1 hf hJ hS (hl.sub [0, 1] rfl)
              · replace hf := jm_iff hf hq75
                exact kX8_elect_108 C (fun h0 x1 S H locs ls hf hJ hS hl => ih h0 x1 hf hJ hS hl) h0 x1 hf hJ hS (hl.sub [0, 1] rfl)
theorem moX8_elect (h0 : Nat) : jm_Mo (fX8_elect h0) := by
  unfold fX8_elect
  exact jm_Mo_rd (fun _ => jm_Mo_if (jm_Mo_rd (fun _ => jm_Mo_bd (moX8_ups _) (fun _ => jm_Mo_rd (fun _ => jm_Mo_bd (moX8_quorum _) (fun _ => jm_Mo_if (jm_Mo_wr jm_p_st (moX8_elect_30 _ _ _)) (jm_Mo_ret _)))))) (jm_Mo_ret _))
set_option maxHeartbeats 4000000 in
set_option maxRecDepth 100000 in
theorem kX8_elect {rv : Int32} {Sf : jm_S} (C : jm_C G cX8_elect 3 RX8 wsX8_elect ((some .int)) p s m args meth c) : ∀ (h0 : Nat) {S : jm_S} {H : Heap} {locs : List Loc} {ls : Array Slot}, fX8_elect h0 S = some (rv, Sf) → jm_J G S H → va_S (jm_A G) s.heap H locs → jm_L ls 3 [(0, .inr (some h0))] → W p l e ({ frames := 3, cells := 0, slots := 0, locals := 77 } : Room) s m args below meth c H locs 0 0 (MQ below (jm_Q G (some (.int rv)) Sf) args s 0 0 (jm_A G)) (F0 m 0 ls []) := by
  intro h0 S H locs ls hf hJ hS hl
  unfold fX8_elect at hf
  refine jw_aload_n C dX8_elect_0 rfl (hl.at 0 rfl) ?_
  obtain ⟨v1, h1, hf⟩ := jm_rd_ok hf
  refine jw_gI (Cn := RX8) (T := TX8) (N := 29) C hJ h1 rfl inX8_elect_X8 (by decide) (jm_w C 1 rfl) (fun _ h => h) dX8_elect_1 ?_
  refine lv_bipush (v := (-8)) C.1 C.2.1 dX8_elect_4 (by decide) ?_
  refine lv_icmp_ne (tgt := 20) C.1 C.2.1 dX8_elect_6 (by decide) (fun hq2 => ?_) (fun hq2 => ?_)
  · replace hf := jm_iff hf hq2
    refine lv_bipush (v := (-2)) C.1 C.2.1 dX8_elect_20 (by decide) ?_
    obtain ⟨rfl, rfl⟩ := jm_ret_ok hf
    exact jw_ri C hJ hS (Nat.le_refl _) (Nat.le_refl _) dX8_elect_22
  · replace hf := jm_ift hf hq2
    refine jw_aload_n C dX8_elect_9 rfl (hl.at 0 rfl) ?_
    obtain ⟨a3, o3, hf⟩ := jm_rd_ok hf
    obtain ⟨v3, S3, h3, hf⟩ := jm_bd_ok hf
    refine jw_cV (q := (RX8, TX8, 29)) C hJ hS o3 rfl (cX8_ups_C l G a3 h3) (cwV 0 C.2.2.2.2.1 gX8_elect_X8_ups rfl rfl rfl (by decide +kernel) ⟨Nat.le_of_ble_eq_true rfl, Nat.le_of_ble_eq_true rfl⟩) rfl hl.1 rfl (Nat.le_of_ble_eq_true rfl) dX8_elect_10 ⟨Nat.le_refl _, Nat.le_refl _⟩ (fun H locs hJ hS => ?_)
    refine jw_aload_n C dX8_elect_13 rfl (hl.at 0 rfl) ?_
    obtain ⟨a4, o4, hf⟩ := jm_rd_ok hf
    obtain ⟨v4, S4, h4, hf⟩ := jm_bd_ok hf
    refine jw_cV (q := (RX8, TX8, 29)) C hJ hS o4 rfl (cX8_quorum_C l G a4 h4) (cwV 0 C.2.2.2.2.1 gX8_elect_X8_quorum rfl rfl rfl (by decide +kernel) ⟨Nat.le_of_ble_eq_true rfl, Nat.le_of_ble_eq_true rfl⟩) rfl hl.1 rfl (Nat.le_of_ble_eq_true rfl) dX8_elect_14 ⟨Nat.le_refl _, Nat.le_refl _⟩ (fun H locs hJ hS => ?_)
    refine lv_icmp_ge (tgt := 23) C.1 C.2.1 dX8_elect_17 (by decide) (fun hq5 => ?_) (fun hq5 => ?_)
    · replace hf := jm_ift hf hq5
      refine jw_aload_n C dX8_elect_23 rfl (hl.at 0 rfl) ?_
      refine lv_iconst (v := 0) C.1 C.2.1 dX8_elect_24 (by decide) ?_
      obtain ⟨S6, h6, hf⟩ := jm_wr_ok hf
      refine jw_p (x := .inl 0) (ty := .int) (Cn := RX8) (T := TX8) (N := 29) C hJ hS h6 rfl inX8_elect_X8 tyX8 tyX8_ok nmX8 (by decide) (jm_w C 2 rfl) (fun _ h => h) rfl (by decide +kernel) rfl rfl dX8_elect_25 (fun H locs hJ hS => ?_)
      refine lv_iconst (v := 0) C.1 C.2.1 dX8_elect_28 (by decide) ?_
      refine jw_istore_n C dX8_elect_29 rfl hl (by decide) rfl (fun ls hl => ?_)
      exact kX8_elect_30 C 4096 h0 0 hf hJ hS (hl.sub [1, 0] rfl)
    · replace hf := jm_iff hf hq5
      refine lv_bipush (v := (-2)) C.1 C.2.1 dX8_elect_20 (by decide) ?_
      obtain ⟨rfl, rfl⟩ := jm_ret_ok hf
      exact jw_ri C hJ hS (Nat.le_refl _) (Nat.le_refl _) dX8_elect_22
set_option maxHeartbeats 4000000 in
set_option maxRecDepth 100000 in
theorem cX8_elect_C (l : Launch) (G : jm_G) (h0 : Nat) {S Sf : jm_S} {rv : Int32} (hf : fX8_elect h0 S = some (rv, Sf)) : Met l yX8_elect wsX8_elect ({ frames := 3, cells := 0, slots := 0, locals := 77 } : Room) (jm_Pc G S [.ref h0]) (jm_Q G (some (.int rv)) Sf) 0 0 (jm_A G) := by
  refine Met.ofW (cc := cX8_elect) (maxL := 3) (ret := (some .int)) (by decide) rfl ?_
  intro p e s m args below meth c s₁ B hml hv
  obtain ⟨rfl, hJ, hX⟩ := hv
  have C : jm_C G cX8_elect 3 RX8 wsX8_elect ((some .int)) p s m _ meth c := ⟨B.exec, B.bytes, hml, findClass_of_methodNamed B.named, atoms_spec (ws := wsX8_elect) B.pre, B.returns, B.notSynchronized, hX⟩
  obtain ⟨ls, he, hl⟩ := jm_entry m [.inr (some h0)] (n := 3) (Nat.le_of_ble_eq_true rfl)
  have he : entryFrame m ([.ref h0] : List Value).toArray 3 = F0 m 0 ls [] := he
  rw [he]
  exact kX8_elect C h0 hf hJ va_S.rf (hl.sub [0] rfl)
/-! CoordinationServiceModel.synchronize -/
def fX8_synchronize (h0 : Nat) (x1 : Int32) : jm_P Int32 := jm_rd (jm_o (some h0) 9) fun a1 => jm_bd (fX8_isServer a1 x1) fun v1 => (if v1 = 0 then jm_ret (-1) else jm_rd (jm_gI (some h0) 9 5) fun v3 => (if v3 = (-8) then jm_ret (-2) else jm_rd (jm_gR (some h0) 9 1) fun v5 => jm_rd (jm_gi v5 1 x1) fun v6 => (if v6 = 0 then jm_ret (-2) else jm_rd (jm_gR (some h0) 9 2) fun v8 => jm_rd (jm_gi v8 1 x1) fun v9 => (if v9 = 0 then jm_rd (jm_o (some h0) 9) fun a11 => jm_bd (fX8_becomesLike a11 x1) fun v11 => jm_rd (jm_gR (some h0) 9 3) fun v12 => jm_rd (jm_gI (some h0) 9 6) fun v13 => jm_wr (jm_si v12 0 x1 v13) <| jm_rd (jm_o (some h0) 9) fun a15 => jm_bd (fX8_commits a15) fun _ => jm_rd (jm_gI (some h0) 9 8) fun v16 => jm_rd (jm_o (some h0) 9) fun a17 => jm_bd (fX8_goesOn a17 x1 v16) fun v17 => jm_ret v11 else jm_ret (-2)))))
theorem inX8_synchronize_X8 : ∀ w ∈ wsX80, w ∈ wsX8_synchronize := fun _ h => List.mem_cons_of_mem _ (List.mem_append_right _ h)
theorem moX8_synchronize (h0 : Nat) (x1 : Int32) : jm_Mo (fX8_synchronize h0 x1) := by
  unfold fX8_synchronize
  exact jm_Mo_rd (fun _ => jm_Mo_bd (moX8_isServer _ _) (fun _ => jm_Mo_if (jm_Mo_ret _) (jm_Mo_rd (fun _ => jm_Mo_if (jm_Mo_ret _) (jm_Mo_rd (fun _ => jm_Mo_rd (fun _ => jm_Mo_if (jm_Mo_ret _) (jm_Mo_rd (fun _ => jm_Mo_rd (fun _ => jm_Mo_if (jm_Mo_rd (fun _ => jm_Mo_bd (moX8_becomesLike _ _) (fun _ => jm_Mo_rd (fun _ => jm_Mo_rd (fun _ => jm_Mo_wr jm_si_st (jm_Mo_rd (fun _ => jm_Mo_bd (moX8_commits _) (fun _ => jm_Mo_rd (fun _ => jm_Mo_rd (fun _ => jm_Mo_bd (moX8_goesOn _ _ _) (fun _ => jm_Mo_ret _))))))))))) (jm_Mo_ret _)))))))))))
set_option maxHeartbeats 4000000 in
set_option maxRecDepth 100000 in
theorem kX8_synchronize {rv : Int32} {Sf : jm_S} (C : jm_C G cX8_synchronize 3 RX8 wsX8_synchronize ((some .int)) p s m args meth c) : ∀ (h0 : Nat) (x1 : Int32) {S : jm_S} {H : Heap} {locs : List Loc} {ls : Array Slot}, fX8_synchronize h0 x1 S = some (rv, Sf) → jm_J G S H → va_S (jm_A G) s.heap H locs → jm_L ls 3 [(0, .inr (some h0)), (1, .inl x1)] → W p l e ({ frames := 4, cells := 0, slots := 0, locals := 100 } : Room) s m args below meth c H locs 0 0 (MQ below (jm_Q G (some (.int rv)) Sf) args s 0 0 (jm_A G)) (F0 m 0 ls []) := by
  intro h0 x1 S H locs ls hf hJ hS hl
  unfold fX8_synchronize at hf
  refine jw_aload_n C dX8_synchronize_0 rfl (hl.at 0 rfl) ?_
  refine lv_iload_n C.1 C.2.1 dX8_synchronize_1 rfl (hl.at 1 rfl) ?_
  obtain ⟨a1, o1, hf⟩ := jm_rd_ok hf
  obtain ⟨v1, S1, h1, hf⟩ := jm_bd_ok hf
  refine jw_cV (q := (RX8, TX8, 29)) C hJ hS o1 rfl (cX8_isServer_C l G a1 x1 h1) (cwV 1 C.2.2.2.2.1 gX8_synchronize_X8_isServer rfl rfl rfl (by decide +kernel) ⟨Nat.le_of_ble_eq_true rfl, Nat.le_of_ble_eq_true rfl⟩) rfl hl.1 rfl (Nat.le_of_ble_eq_true rfl) dX8_synchronize_2 ⟨Nat.le_refl _, Nat.le_refl _⟩ (fun H locs hJ hS => ?_)
  refine lv_if_ne (tgt := 10) C.1 C.2.1 dX8_synchronize_5 (by decide) (fun hq2 => ?_) (fun hq2 => ?_)
  · replace hf := jm_iff hf hq2
    refine jw_aload_n C dX8_synchronize_10 rfl (hl.at 0 rfl) ?_
    obtain ⟨v3, h3, hf⟩ := jm_rd_ok hf
    refine jw_gI (Cn := RX8) (T := TX8) (N := 29) C hJ h3 rfl inX8_synchronize_X8 (by decide) (jm_w C 1 rfl) (fun _ h => h) dX8_synchronize_11 ?_
    refine lv_bipush (v := (-8)) C.1 C.2.1 dX8_synchronize_14 (by decide) ?_
    refine lv_icmp_eq (tgt := 37) C.1 C.2.1 dX8_synchronize_16 (by decide) (fun hq4 => ?_) (fun hq4 => ?_)
    · replace hf := jm_ift hf hq4
      refine lv_bipush (v := (-2)) C.1 C.2.1 dX8_synchronize_37 (by decide) ?_
      obtain ⟨rfl, rfl⟩ := jm_ret_ok hf
      exact jw_ri C hJ hS (Nat.le_refl _) (Nat.le_refl _) dX8_synchronize_39
    · replace hf := jm_iff hf hq4
      refine jw_aload_n C dX8_synchronize_19 rfl (hl.at 0 rfl) ?_
      obtain ⟨v5, h5, hf⟩ := jm_rd_ok hf
      refine jw_gR (Cn := RX8) (T := TX8) (N := 29) C hJ h5 rfl inX8_synchronize_X8 (by decide) (jm_w C 2 rfl) (fun _ h => h) dX8_synchronize_20 ?_
      refine lv_iload_n C.1 C.2.1 dX8_synchronize_23 rfl (hl.at 1 rfl) ?_
      obtain ⟨v6, h6, hf⟩ := jm_rd_ok hf
      refine jw_zaload C hJ h6 dX8_synchronize_24 ?_
      refine lv_if_eq (tgt := 37) C.1 C.2.1 dX8_synchronize_25 (by decide) (fun hq7 => ?_) (fun hq7 => ?_)
      · replace hf := jm_ift hf hq7
        refine lv_bipush (v := (-2)) C.1 C.2.1 dX8_synchronize_37 (by decide) ?_
        obtain ⟨rfl, rfl⟩ := jm_ret_ok hf
        exact jw_ri C hJ hS (Nat.le_refl _) (Nat.le_refl _) dX8_synchronize_39
      · replace hf := jm_iff hf hq7
        refine jw_aload_n C dX8_synchronize_28 rfl (hl.at 0 rfl) ?_
        obtain ⟨v8, h8, hf⟩ := jm_rd_ok hf
        refine jw_gR (Cn := RX8) (T := TX8) (N := 29) C hJ h8 rfl inX8_synchronize_X8 (by decide) (jm_w C 3 rfl) (fun _ h => h) dX8_synchronize_29 ?_
        refine lv_iload_n C.1 C.2.1 dX8_synchronize_32 rfl (hl.at 1 rfl) ?_
        obtain ⟨v9, h9, hf⟩ := jm_rd_ok hf
        refine jw_zaload C hJ h9 dX8_synchronize_33 ?_
        refine lv_if_eq (tgt := 40) C.1 C.2.1 dX8_synchronize_34 (by decide) (fun hq10 => ?_) (fun hq10 => ?_)
        · replace hf := jm_ift hf hq10
          refine jw_aload_n C dX8_synchronize_40 rfl (hl.at 0 rfl) ?_
          refine lv_iload_n C.1 C.2.1 dX8_synchronize_41 rfl (hl.at 1 rfl) ?_
          obtain ⟨a11, o11, hf⟩ := jm_rd_ok hf
          obtain ⟨v11, S11, h11, hf⟩ := jm_bd_ok hf
          refine jw_cV (q := (RX8, TX8, 29)) C hJ hS o11 rfl (cX8_becomesLike_C l G a11 x1 h11) (cwV 1 C.2.2.2.2.1 gX8_synchronize_X8_becomesLike rfl rfl rfl (by decide +kernel) ⟨Nat.le_of_ble_eq_true rfl, Nat.le_of_ble_eq_true rfl⟩) rfl hl.1 rfl (Nat.le_of_ble_eq_true rfl) dX8_synchronize_42 ⟨Nat.le_refl _, Nat.le_refl _⟩ (fun H locs hJ hS => ?_)
          refine jw_istore_n C dX8_synchronize_45 rfl hl (by decide) rfl (fun ls hl => ?_)
          refine jw_aload_n C dX8_synchronize_46 rfl (hl.at 1 rfl) ?_
          obtain ⟨v12, h12, hf⟩ := jm_rd_ok hf
          refine jw_gR (Cn := RX8) (T := TX8) (N := 29) C hJ h12 rfl inX8_synchronize_X8 (by decide) (jm_w C 4 rfl) (fun _ h => h) dX8_synchronize_47 ?_
          refine lv_iload_n C.1 C.2.1 dX8_synchronize_50 rfl (hl.at 2 rfl) ?_
          refine jw_aload_n C dX8_synchronize_51 rfl (hl.at 1 rfl) ?_
          obtain ⟨v13, h13, hf⟩ := jm_rd_ok hf
          refine jw_gI (Cn := RX8) (T := TX8) (N := 29) C hJ h13 rfl inX8_synchronize_X8 (by decide) (jm_w C 5 rfl) (fun _ h => h) dX8_synchronize_52 ?_
          obtain ⟨S14, h14, hf⟩ := jm_wr_ok hf
          refine jw_iastore C hJ hS h14 dX8_synchronize_55 (fun H locs hJ hS => ?_)
          refine jw_aload_n C dX8_synchronize_56 rfl (hl.at 1 rfl) ?_
          obtain ⟨a15, o15, hf⟩ := jm_rd_ok hf
          obtain ⟨v15, S15, h15, hf⟩ := jm_bd_ok hf
          refine jw_cV (q := (RX8, TX8, 29)) C hJ hS o15 rfl (cX8_commits_C l G a15 h15) (cwV 0 C.2.2.2.2.1 gX8_synchronize_X8_commits rfl rfl rfl (by decide +kernel) ⟨Nat.le_of_ble_eq_true rfl, Nat.le_of_ble_eq_true rfl⟩) rfl hl.1 rfl (Nat.le_of_ble_eq_true rfl) dX8_synchronize_57 ⟨Nat.le_refl _, Nat.le_refl _⟩ (fun H locs hJ hS => ?_)
          refine jw_aload_n C dX8_synchronize_60 rfl (hl.at 1 rfl) ?_
          refine lv_iload_n C.1 C.2.1 dX8_synchronize_61 rfl (hl.at 2 rfl) ?_
          refine jw_aload_n C dX8_synchronize_62 rfl (hl.at 1 rfl) ?_
          obtain ⟨v16, h16, hf⟩ := jm_rd_ok hf
          refine jw_gI (Cn := RX8) (T := TX8) (N := 29) C hJ h16 rfl inX8_synchronize_X8 (by decide) (jm_w C 6 rfl) (fun _ h => h) dX8_synchronize_63 ?_
          obtain ⟨a17, o17, hf⟩ := jm_rd_ok hf
          obtain ⟨v17, S17, h17, hf⟩ := jm_bd_ok hf
          refine jw_cV (q := (RX8, TX8, 29)) C hJ hS o17 rfl (cX8_goesOn_C l G a17 x1 v16 h17) (cwV 2 C.2.2.2.2.1 gX8_synchronize_X8_goesOn rfl rfl rfl (by decide +kernel) ⟨Nat.le_of_ble_eq_true rfl, Nat.le_of_ble_eq_true rfl⟩) rfl hl.1 rfl (Nat.le_of_ble_eq_true rfl) dX8_synchronize_66 ⟨Nat.le_refl _, Nat.le_refl _⟩ (fun H locs hJ hS => ?_)
          refine lv_pop C.1 C.2.1 dX8_synchronize_69 rfl ?_
          refine lv_iload_n C.1 C.2.1 dX8_synchronize_70 rfl (hl.at 0 rfl) ?_
          obtain ⟨rfl, rfl⟩ := jm_ret_ok hf
          exact jw_ri C hJ hS (Nat.le_refl _) (Nat.le_refl _) dX8_synchronize_71
        · replace hf := jm_iff hf hq10
          refine lv_bipush (v := (-2)) C.1 C.2.1 dX8_synchronize_37 (by decide) ?_
          obtain ⟨rfl, rfl⟩ := jm_ret_ok hf
          exact jw_ri C hJ hS (Nat.le_refl _) (Nat.le_refl _) dX8_synchronize_39
  · replace hf := jm_ift hf hq2
    refine lv_iconst (v := (-1)) C.1 C.2.1 dX8_synchronize_8 (by decide) ?_
    obtain ⟨rfl, rfl⟩ := jm_ret_ok hf
    exact jw_ri C hJ hS (Nat.le_refl _) (Nat.le_refl _) dX8_synchronize_9
set_option maxHeartbeats 4000000 in
set_option maxRecDepth 100000 in
theorem cX8_synchronize_C (l : Launch) (G : jm_G) (h0 : Nat) (x1 : Int32) {S Sf : jm_S} {rv : Int32} (hf : fX8_synchronize h0 x1 S = some (rv, Sf)) : Met l yX8_synchronize wsX8_synchronize ({ frames := 4, cells := 0, slots := 0, locals := 100 } : Room) (jm_Pc G S [.ref h0, .int x1]) (jm_Q G (some (.int rv)) Sf) 0 0 (jm_A G) := by
  refine Met.ofW (cc := cX8_synchronize) (maxL := 3) (ret := (some .int)) (by decide) rfl ?_
  intro p e s m args below meth c s₁ B hml hv
  obtain ⟨rfl, hJ, hX⟩ := hv
  have C : jm_C G cX8_synchronize 3 RX8 wsX8_synchronize ((some .int)) p s m _ meth c := ⟨B.exec, B.bytes, hml, findClass_of_methodNamed B.named, atoms_spec (ws := wsX8_synchronize) B.pre, B.returns, B.notSynchronized, hX⟩
  obtain ⟨ls, he, hl⟩ := jm_entry m [.inr (some h0), .inl x1] (n := 3) (Nat.le_of_ble_eq_true rfl)
  have he : entryFrame m ([.ref h0, .int x1] : List Value).toArray 3 = F0 m 0 ls [] := he
  rw [he]
  exact kX8_synchronize C h0 x1 hf hJ va_S.rf (hl.sub [0, 1] rfl)
/-! CoordinationServiceModel.isFollower -/
def fX8_isFollower (h0 : Nat) (x1 : Int32) : jm_P Int32 := jm_rd (jm_gR (some h0) 9 2) fun v1 => jm_rd (jm_gi v1 1 x1) fun v2 => (if v2 = 0 then jm_rd (jm_z 0) fun _ => jm_ret 0 else jm_rd (jm_gI (some h0) 9 5) fun v5 => (if x1 = v5 then jm_rd (jm_z 0) fun _ => jm_ret 0 else jm_rd (jm_z 1) fun _ => jm_ret 1))
theorem inX8_isFollower_X8 : ∀ w ∈ wsX80, w ∈ wsX8_isFollower := fun _ h => List.mem_cons_of_mem _ (List.mem_append_right _ h)
theorem moX8_isFollower (h0 : Nat) (x1 : Int32) : jm_Mo (fX8_isFollower h0 x1) := by
  unfold fX8_isFollower
  exact jm_Mo_rd (fun _ => jm_Mo_rd (fun _ => jm_Mo_if (jm_Mo_rd (fun _ => jm_Mo_ret _)) (jm_Mo_rd (fun _ => jm_Mo_if (jm_Mo_rd (fun _ => jm_Mo_ret _)) (jm_Mo_rd (fun _ => jm_Mo_ret _))))))
set_option maxHeartbeats 4000000 in
set_option maxRecDepth 100000 in
theorem kX8_isFollower {rv : Int32} {Sf : jm_S} (C : jm_C G cX8_isFollower 2 RX8 wsX8_isFollower ((some .boolean)) p s m args meth c) : ∀ (h0 : Nat) (x1 : Int32) {S : jm_S} {H : Heap} {locs : List Loc} {ls : Array Slot}, fX8_isFollower h0 x1 S = some (rv, Sf) → jm_J G S H → va_S (jm_A G) s.heap H locs → jm_L ls 2 [(0, .inr (some h0)), (1, .inl x1)] → W p l e ({ frames := 0, cells := 0, slots := 0, locals := 0 } : Room) s m args below meth c H locs 0 0 (MQ below (jm_Q G (some (.int rv)) Sf) args s 0 0 (jm_A G)) (F0 m 0 ls []) := by
  intro h0 x1 S H locs ls hf hJ hS hl
  unfold fX8_isFollower at hf
  refine jw_aload_n C dX8_isFollower_0 rfl (hl.at 0 rfl) ?_
  obtain ⟨v1, h1, hf⟩ := jm_rd_ok hf
  refine jw_gR (Cn := RX8) (T := TX8) (N := 29) C hJ h1 rfl inX8_isFollower_X8 (by decide) (jm_w C 1 rfl) (fun _ h => h) dX8_isFollower_1 ?_
  refine lv_iload_n C.1 C.2.1 dX8_isFollower_4 rfl (hl.at 1 rfl) ?_
  obtain ⟨v2, h2, hf⟩ := jm_rd_ok hf
  refine jw_zaload C hJ h2 dX8_isFollower_5 ?_
  refine lv_if_eq (tgt := 21) C.1 C.2.1 dX8_isFollower_6 (by decide) (fun hq3 => ?_) (fun hq3 => ?_)
  · replace hf := jm_ift hf hq3
    refine lv_iconst (v := 0) C.1 C.2.1 dX8_isFollower_21 (by decide) ?_
    obtain ⟨u4, z4, hf⟩ := jm_rd_ok hf
    obtain ⟨rfl, rfl⟩ := jm_ret_ok hf
    exact jw_rz C hJ hS z4 (Nat.le_refl _) (Nat.le_refl _) dX8_isFollower_22
  · replace hf := jm_iff hf hq3
    refine lv_iload_n C.1 C.2.1 dX8_isFollower_9 rfl (hl.at 1 rfl) ?_
    refine jw_aload_n C dX8_isFollower_10 rfl (hl.at 0 rfl) ?_
    obtain ⟨v5, h5, hf⟩ := jm_rd_ok hf
    refine jw_gI (Cn := RX8) (T := TX8) (N := 29) C hJ h5 rfl inX8_isFollower_X8 (by decide) (jm_w C 2 rfl) (fun _ h => h) dX8_isFollower_11 ?_
    refine lv_icmp_eq (tgt := 21) C.1 C.2.1 dX8_isFollower_14 (by decide) (fun hq6 => ?_) (fun hq6 => ?_)
    · replace hf := jm_ift hf hq6
      refine lv_iconst (v := 0) C.1 C.2.1 dX8_isFollower_21 (by decide) ?_
      obtain ⟨u7, z7, hf⟩ := jm_rd_ok hf
      obtain ⟨rfl, rfl⟩ := jm_ret_ok hf
      exact jw_rz C hJ hS z7 (Nat.le_refl _) (Nat.le_refl _) dX8_isFollower_22
    · replace hf := jm_iff hf hq6
      refine lv_iconst (v := 1) C.1 C.2.1 dX8_isFollower_17 (by decide) ?_
      refine lv_goto (tgt := 22) C.1 C.2.1 dX8_isFollower_18 (by decide) ?_
      obtain ⟨u8, z8, hf⟩ := jm_rd_ok hf
      obtain ⟨rfl, rfl⟩ := jm_ret_ok hf
      exact jw_rz C hJ hS z8 (Nat.le_refl _) (Nat.le_refl _) dX8_isFollower_22
set_option maxHeartbeats 4000000 in
set_option maxRecDepth 100000 in
theorem cX8_isFollower_C (l : Launch) (G : jm_G) (h0 : Nat) (x1 : Int32) {S Sf : jm_S} {rv : Int32} (hf : fX8_isFollower h0 x1 S = some (rv, Sf)) : Met l yX8_isFollower wsX8_isFollower ({ frames := 0, cells := 0, slots := 0, locals := 0 } : Room) (jm_Pc G S [.ref h0, .int x1]) (jm_Q G (some (.int rv)) Sf) 0 0 (jm_A G) := by
  refine Met.ofW (cc := cX8_isFollower) (maxL := 2) (ret := (some .boolean)) (by decide) rfl ?_
  intro p e s m args below meth c s₁ B hml hv
  obtain ⟨rfl, hJ, hX⟩ := hv
  have C : jm_C G cX8_isFollower 2 RX8 wsX8_isFollower ((some .boolean)) p s m _ meth c := ⟨B.exec, B.bytes, hml, findClass_of_methodNamed B.named, atoms_spec (ws := wsX8_isFollower) B.pre, B.returns, B.notSynchronized, hX⟩
  obtain ⟨ls, he, hl⟩ := jm_entry m [.inr (some h0), .inl x1] (n := 2) (Nat.le_of_ble_eq_true rfl)
  have he : entryFrame m ([.ref h0, .int x1] : List Value).toArray 2 = F0 m 0 ls [] := he
  rw [he]
  exact kX8_isFollower C h0 x1 hf hJ va_S.rf (hl.sub [0, 1] rfl)
/-! CoordinationServiceModel.accept -/
def fX8_accept (h0 : Nat) (x1 : Int32) : jm_P Int32 := jm_rd (jm_o (some h0) 9) fun a1 => jm_bd (fX8_isServer a1 x1) fun v1 => (if v1 = 0 then jm_ret (-1) else jm_rd (jm_o (some h0) 9) fun a3 => jm_bd (fX8_isFollower a3 x1) fun v3 => (if v3 = 0 then jm_ret (-2) else jm_rd (jm_gR (some h0) 9 9) fun v5 => jm_rd (jm_gi v5 0 x1) fun v6 => jm_rd (jm_gR (some h0) 9 9) fun v7 => jm_rd (jm_gI (some h0) 9 5) fun v8 => jm_rd (jm_gi v7 0 v8) fun v9 => (if v6 = v9 then jm_ret (-2) else jm_rd (jm_gR (some h0) 9 9) fun v11 => jm_rd (jm_gi v11 0 x1) fun v12 => jm_rd (jm_o (some h0) 9) fun a13 => jm_bd (fX8_takes a13 x1 v12) fun _ => jm_rd (jm_o (some h0) 9) fun a14 => jm_bd (fX8_commits a14) fun _ => jm_rd (jm_o (some h0) 9) fun a15 => jm_bd (fX8_lastOfLog a15 x1) fun v15 => jm_ret v15)))
theorem inX8_accept_X8 : ∀ w ∈ wsX80, w ∈ wsX8_accept := fun _ h => List.mem_cons_of_mem _ (List.mem_append_right _ h)
theorem moX8_accept (h0 : Nat) (x1 : Int32) : jm_Mo (fX8_accept h0 x1) := by
  unfold fX8_accept
  exact jm_Mo_rd (fun _ => jm_Mo_bd (moX8_isServer _ _) (fun _ => jm_Mo_if (jm_Mo_ret _) (jm_Mo_rd (fun _ => jm_Mo_bd (moX8_isFollower _ _) (fun _ => jm_Mo_if (jm_Mo_ret _) (jm_Mo_rd (fun _ => jm_Mo_rd (fun _ => jm_Mo_rd (fun _ => jm_Mo_rd (fun _ => jm_Mo_rd (fun _ => jm_Mo_if (jm_Mo_ret _) (jm_Mo_rd (fun _ => jm_Mo_rd (fun _ => jm_Mo_rd (fun _ => jm_Mo_bd (moX8_takes _ _ _) (fun _ => jm_Mo_rd (fun _ => jm_Mo_bd (moX8_commits _) (fun _ => jm_Mo_rd (fun _ => jm_Mo_bd (moX8_lastOfLog _ _) (fun _ => jm_Mo_ret _))))))))))))))))))))
set_option maxHeartbeats 4000000 in
set_option maxRecDepth 100000 in
theorem kX8_accept {rv : Int32} {Sf : jm_S} (C : jm_C G cX8_accept 2 RX8 wsX8_accept ((some .int)) p s m args meth c) : ∀ (h0 : Nat) (x1 : Int32) {S : jm_S} {H : Heap} {locs : List Loc} {ls : Array Slot}, fX8_accept h0 x1 S = some (rv, Sf) → jm_J G S H → va_S (jm_A G) s.heap H locs → jm_L ls 2 [(0, .inr (some h0)), (1, .inl x1)] → W p l e ({ frames := 4, cells := 0, slots := 0, locals := 100 } : Room) s m args below meth c H locs 0 0 (MQ below (jm_Q G (some (.int rv)) Sf) args s 0 0 (jm_A G)) (F0 m 0 ls []) := by
  intro h0 x1 S H locs ls hf hJ hS hl
  unfold fX8_accept at hf
  refine jw_aload_n C dX8_accept_0 rfl (hl.at 0 rfl) ?_
  refine lv_iload_n C.1 C.2.1 dX8_accept_1 rfl (hl.at 1 rfl) ?_
  obtain ⟨a1, o1, hf⟩ := jm_rd_ok hf
  obtain ⟨v1, S1, h1, hf⟩ := jm_bd_ok hf
  refine jw_cV (q := (RX8, TX8, 29)) C hJ hS o1 rfl (cX8_isServer_C l G a1 x1 h1) (cwV 1 C.2.2.2.2.1 gX8_accept_X8_isServer rfl rfl rfl (by decide +kernel) ⟨Nat.le_of_ble_eq_true rfl, Nat.le_of_ble_eq_true rfl⟩) rfl hl.1 rfl (Nat.le_of_ble_eq_true rfl) dX8_accept_2 ⟨Nat.le_refl _, Nat.le_refl _⟩ (fun H locs hJ hS => ?_)
  refine lv_if_ne (tgt := 10) C.1 C.2.1 dX8_accept_5 (by decide) (fun hq2 => ?_) (fun hq2 => ?_)
  · replace hf := jm_iff hf hq2
    refine jw_aload_n C dX8_accept_10 rfl (hl.at 0 rfl) ?_
    refine lv_iload_n C.1 C.2.1 dX8_accept_11 rfl (hl.at 1 rfl) ?_
    obtain ⟨a3, o3, hf⟩ := jm_rd_ok hf
    obtain ⟨v3, S3, h3, hf⟩ := jm_bd_ok hf
    refine jw_cV (q := (RX8, TX8, 29)) C hJ hS o3 rfl (cX8_isFollower_C l G a3 x1 h3) (cwV 1 C.2.2.2.2.1 gX8_accept_X8_isFollower rfl rfl rfl (by decide +kernel) ⟨Nat.le_of_ble_eq_true rfl, Nat.le_of_ble_eq_true rfl⟩) rfl hl.1 rfl (Nat.le_of_ble_eq_true rfl) dX8_accept_12 ⟨Nat.le_refl _, Nat.le_refl _⟩ (fun H locs hJ hS => ?_)
    refine lv_if_eq (tgt := 36) C.1 C.2.1 dX8_accept_15 (by decide) (fun hq4 => ?_) (fun hq4 => ?_)
    · replace hf := jm_ift hf hq4
      refine lv_bipush (v := (-2)) C.1 C.2.1 dX8_accept_36 (by decide) ?_
      obtain ⟨rfl, rfl⟩ := jm_ret_ok hf
      exact jw_ri C hJ hS (Nat.le_refl _) (Nat.le_refl _) dX8_accept_38
    · replace hf := jm_iff hf hq4
      refine jw_aload_n C dX8_accept_18 rfl (hl.at 0 rfl) ?_
      obtain ⟨v5, h5, hf⟩ := jm_rd_ok hf
      refine jw_gR (Cn := RX8) (T := TX8) (N := 29) C hJ h5 rfl inX8_accept_X8 (by decide) (jm_w C 1 rfl) (fun _ h => h) dX8_accept_19 ?_
      refine lv_iload_n C.1 C.2.1 dX8_accept_22 rfl (hl.at 1 rfl) ?_
      obtain ⟨v6, h6, hf⟩ := jm_rd_ok hf
      refine jw_iaload C hJ h6 dX8_accept_23 ?_
      refine jw_aload_n C dX8_accept_24 rfl (hl.at 0 rfl) ?_
      obtain ⟨v7, h7, hf⟩ := jm_rd_ok hf
      refine jw_gR (Cn := RX8) (T := TX8) (N := 29) C hJ h7 rfl inX8_accept_X8 (by decide) (jm_w C 1 rfl) (fun _ h => h) dX8_accept_25 ?_
      refine jw_aload_n C dX8_accept_28 rfl (hl.at 0 rfl) ?_
      obtain ⟨v8, h8, hf⟩ := jm_rd_ok hf
      refine jw_gI (Cn := RX8) (T := TX8) (N := 29) C hJ h8 rfl inX8_accept_X8 (by decide) (jm_w C 2 rfl) (fun _ h => h) dX8_accept_29 ?_
      obtain ⟨v9, h9, hf⟩ := jm_rd_ok hf
      refine jw_iaload C hJ h9 dX8_accept_32 ?_
      refine lv_icmp_ne (tgt := 39) C.1 C.2.1 dX8_accept_33 (by decide) (fun hq10 => ?_) (fun hq10 => ?_)
      · replace hf := jm_iff hf hq10
        refine jw_aload_n C dX8_accept_39 rfl (hl.at 0 rfl) ?_
        refine lv_iload_n C.1 C.2.1 dX8_accept_40 rfl (hl.at 1 rfl) ?_
        refine jw_aload_n C dX8_accept_41 rfl (hl.at 0 rfl) ?_
        obtain ⟨v11, h11, hf⟩ := jm_rd_ok hf
        refine jw_gR (Cn := RX8) (T := TX8) (N := 29) C hJ h11 rfl inX8_accept_X8 (by decide) (jm_w C 1 rfl) (fun _ h => h) dX8_accept_42 ?_
        refine lv_iload_n C.1 C.2.1 dX8_accept_45 rfl (hl.at 1 rfl) ?_
        obtain ⟨v12, h12, hf⟩ := jm_rd_ok hf
        refine jw_iaload C hJ h12 dX8_accept_46 ?_
        obtain ⟨a13, o13, hf⟩ := jm_rd_ok hf
        obtain ⟨v13, S13, h13, hf⟩ := jm_bd_ok hf
        refine jw_cV (q := (RX8, TX8, 29)) C hJ hS o13 rfl (cX8_takes_C l G a13 x1 v12 h13) (cwV 2 C.2.2.2.2.1 gX8_accept_X8_takes rfl rfl rfl (by decide +kernel) ⟨Nat.le_of_ble_eq_true rfl, Nat.le_of_ble_eq_true rfl⟩) rfl hl.1 rfl (Nat.le_of_ble_eq_true rfl) dX8_accept_47 ⟨Nat.le_refl _, Nat.le_refl _⟩ (fun H locs hJ hS => ?_)
        refine jw_aload_n C dX8_accept_50 rfl (hl.at 0 rfl) ?_
        obtain ⟨a14, o14, hf⟩ := jm_rd_ok hf
        obtain ⟨v14, S14, h14, hf⟩ := jm_bd_ok hf
        refine jw_cV (q := (RX8, TX8, 29)) C hJ hS o14 rfl (cX8_commits_C l G a14 h14) (cwV 0 C.2.2.2.2.1 gX8_accept_X8_commits rfl rfl rfl (by decide +kernel) ⟨Nat.le_of_ble_eq_true rfl, Nat.le_of_ble_eq_true rfl⟩) rfl hl.1 rfl (Nat.le_of_ble_eq_true rfl) dX8_accept_51 ⟨Nat.le_refl _, Nat.le_refl _⟩ (fun H locs hJ hS => ?_)
        refine jw_aload_n C dX8_accept_54 rfl (hl.at 0 rfl) ?_
        refine lv_iload_n C.1 C.2.1 dX8_accept_55 rfl (hl.at 1 rfl) ?_
        obtain ⟨a15, o15, hf⟩ := jm_rd_ok hf
        obtain ⟨v15, S15, h15, hf⟩ := jm_bd_ok hf
        refine jw_cV (q := (RX8, TX8, 29)) C hJ hS o15 rfl (cX8_lastOfLog_C l G a15 x1 h15) (cwV 1 C.2.2.2.2.1 gX8_accept_X8_lastOfLog rfl rfl rfl (by decide +kernel) ⟨Nat.le_of_ble_eq_true rfl, Nat.le_of_ble_eq_true rfl⟩) rfl hl.1 rfl (Nat.le_of_ble_eq_true rfl) dX8_accept_56 ⟨Nat.le_refl _, Nat.le_refl _⟩ (fun H locs hJ hS => ?_)
        obtain ⟨rfl, rfl⟩ := jm_ret_ok hf
        exact jw_ri C hJ hS (Nat.le_refl _) (Nat.le_refl _) dX8_accept_59
      · replace hf := jm_ift hf hq10
        refine lv_bipush (v := (-2)) C.1 C.2.1 dX8_accept_36 (by decide) ?_
        obtain ⟨rfl, rfl⟩ := jm_ret_ok hf
        exact jw_ri C hJ hS (Nat.le_refl _) (Nat.le_refl _) dX8_accept_38
  · replace hf := jm_ift hf hq2
    refine lv_iconst (v := (-1)) C.1 C.2.1 dX8_accept_8 (by decide) ?_
    obtain ⟨rfl, rfl⟩ := jm_ret_ok hf
    exact jw_ri C hJ hS (Nat.le_refl _) (Nat.le_refl _) dX8_accept_9
set_option maxHeartbeats 4000000 in
set_option maxRecDepth 100000 in
theorem cX8_accept_C (l : Launch) (G : jm_G) (h0 : Nat) (x1 : Int32) {S Sf : jm_S} {rv : Int32} (hf : fX8_accept h0 x1 S = some (rv, Sf)) : Met l yX8_accept wsX8_accept ({ frames := 4, cells := 0, slots := 0, locals := 100 } : Room) (jm_Pc G S [.ref h0, .int x1]) (jm_Q G (some (.int rv)) Sf) 0 0 (jm_A G) := by
  refine Met.ofW (cc := cX8_accept) (maxL := 2) (ret := (some .int)) (by decide) rfl ?_
  intro p e s m args below meth c s₁ B hml hv
  obtain ⟨rfl, hJ, hX⟩ := hv
  have C : jm_C G cX8_accept 2 RX8 wsX8_accept ((some .int)) p s m _ meth c := ⟨B.exec, B.bytes, hml, findClass_of_methodNamed B.named, atoms_spec (ws := wsX8_accept) B.pre, B.returns, B.notSynchronized, hX⟩
  obtain ⟨ls, he, hl⟩ := jm_entry m [.inr (some h0), .inl x1] (n := 2) (Nat.le_of_ble_eq_true rfl)
  have he : entryFrame m ([.ref h0, .int x1] : List Value).toArray 2 = F0 m 0 ls [] := he
  rw [he]
  exact kX8_accept C h0 x1 hf hJ va_S.rf (hl.sub [0, 1] rfl)
/-! CoordinationServiceModel.heartbeat -/
def fX8_heartbeat (h0 : Nat) (x1 : Int32) : jm_P Int32 := jm_rd (jm_o (some h0) 9) fun a1 => jm_bd (fX8_isServer a1 x1) fun v1 => (if v1 = 0 then jm_ret (-1) else jm_rd (jm_o (some h0) 9) fun a3 => jm_bd (fX8_isFollower a3 x1) fun v3 => (if v3 = 0 then jm_ret (-2) else jm_rd (jm_gI (some h0) 9 8) fun v5 => jm_rd (jm_o (some h0) 9) fun a6 => jm_bd (fX8_goesOn a6 x1 v5) fun v6 => jm_ret v6))
theorem inX8_heartbeat_X8 : ∀ w ∈ wsX80, w ∈ wsX8_heartbeat := fun _ h => List.mem_cons_of_mem _ (List.mem_append_right _ h)
theorem moX8_heartbeat (h0 : Nat) (x1 : Int32) : jm_Mo (fX8_heartbeat h0 x1) := by
  unfold fX8_heartbeat
  exact jm_Mo_rd (fun _ => jm_Mo_bd (moX8_isServer _ _) (fun _ => jm_Mo_if (jm_Mo_ret _) (jm_Mo_rd (fun _ => jm_Mo_bd (moX8_isFollower _ _) (fun _ => jm_Mo_if (jm_Mo_ret _) (jm_Mo_rd (fun _ => jm_Mo_rd (fun _ => jm_Mo_bd (moX8_goesOn _ _ _) (fun _ => jm_Mo_ret _)))))))))
set_option maxHeartbeats 4000000 in
set_option maxRecDepth 100000 in
theorem kX8_heartbeat {rv : Int32} {Sf : jm_S} (C : jm_C G cX8_heartbeat 2 RX8 wsX8_heartbeat ((some .int)) p s m args meth c) : ∀ (h0 : Nat) (x1 : Int32) {S : jm_S} {H : Heap} {locs : List Loc} {ls : Array Slot}, fX8_heartbeat h0 x1 S = some (rv, Sf) → jm_J G S H → va_S (jm_A G) s.heap H locs → jm_L ls 2 [(0, .inr (some h0)), (1, .inl x1)] → W p l e ({ frames := 3, cells := 0, slots := 0, locals := 77 } : Room) s m args below meth c H locs 0 0 (MQ below (jm_Q G (some (.int rv)) Sf) args s 0 0 (jm_A G)) (F0 m 0 ls []) := by
  intro h0 x1 S H locs ls hf hJ hS hl
  unfold fX8_heartbeat at hf
  refine jw_aload_n C dX8_heartbeat_0 rfl (hl.at 0 rfl) ?_
  refine lv_iload_n C.1 C.2.1 dX8_heartbeat_1 rfl (hl.at 1 rfl) ?_
  obtain ⟨a1, o1, hf⟩ := jm_rd_ok hf
  obtain ⟨v1, S1, h1, hf⟩ := jm_bd_ok hf
  refine jw_cV (q := (RX8, TX8, 29)) C hJ hS o1 rfl (cX8_isServer_C l G a1 x1 h1) (cwV 1 C.2.2.2.2.1 gX8_heartbeat_X8_isServer rfl rfl rfl (by decide +kernel) ⟨Nat.le_of_ble_eq_true rfl, Nat.le_of_ble_eq_true rfl⟩) rfl hl.1 rfl (Nat.le_of_ble_eq_true rfl) dX8_heartbeat_2 ⟨Nat.le_refl _, Nat.le_refl _⟩ (fun H locs hJ hS => ?_)
  refine lv_if_ne (tgt := 10) C.1 C.2.1 dX8_heartbeat_5 (by decide) (fun hq2 => ?_) (fun hq2 => ?_)
  · replace hf := jm_iff hf hq2
    refine jw_aload_n C dX8_heartbeat_10 rfl (hl.at 0 rfl) ?_
    refine lv_iload_n C.1 C.2.1 dX8_heartbeat_11 rfl (hl.at 1 rfl) ?_
    obtain ⟨a3, o3, hf⟩ := jm_rd_ok hf
    obtain ⟨v3, S3, h3, hf⟩ := jm_bd_ok hf
    refine jw_cV (q := (RX8, TX8, 29)) C hJ hS o3 rfl (cX8_isFollower_C l G a3 x1 h3) (cwV 1 C.2.2.2.2.1 gX8_heartbeat_X8_isFollower rfl rfl rfl (by decide +kernel) ⟨Nat.le_of_ble_eq_true rfl, Nat.le_of_ble_eq_true rfl⟩) rfl hl.1 rfl (Nat.le_of_ble_eq_true rfl) dX8_heartbeat_12 ⟨Nat.le_refl _, Nat.le_refl _⟩ (fun H locs hJ hS => ?_)
    refine lv_if_eq (tgt := 30) C.1 C.2.1 dX8_heartbeat_15 (by decide) (fun hq4 => ?_) (fun hq4 => ?_)
    · replace hf := jm_ift hf hq4
      refine lv_bipush (v := (-2)) C.1 C.2.1 dX8_heartbeat_30 (by decide) ?_
      obtain ⟨rfl, rfl⟩ := jm_ret_ok hf
      exact jw_ri C hJ hS (Nat.le_refl _) (Nat.le_refl _) dX8_heartbeat_32
    · replace hf := jm_iff hf hq4
      refine jw_aload_n C dX8_heartbeat_18 rfl (hl.at 0 rfl) ?_
      refine lv_iload_n C.1 C.2.1 dX8_heartbeat_19 rfl (hl.at 1 rfl) ?_
      refine jw_aload_n C dX8_heartbeat_20 rfl (hl.at 0 rfl) ?_
      obtain ⟨v5, h5, hf⟩ := jm_rd_ok hf
      refine jw_gI (Cn := RX8) (T := TX8) (N := 29) C hJ h5 rfl inX8_heartbeat_X8 (by decide) (jm_w C 1 rfl) (fun _ h => h) dX8_heartbeat_21 ?_
      obtain ⟨a6, o6, hf⟩ := jm_rd_ok hf
      obtain ⟨v6, S6, h6, hf⟩ := jm_bd_ok hf
      refine jw_cV (q := (RX8, TX8, 29)) C hJ hS o6 rfl (cX8_goesOn_C l G a6 x1 v5 h6) (cwV 2 C.2.2.2.2.1 gX8_heartbeat_X8_goesOn rfl rfl rfl (by decide +kernel) ⟨Nat.le_of_ble_eq_true rfl, Nat.le_of_ble_eq_true rfl⟩) rfl hl.1 rfl (Nat.le_of_ble_eq_true rfl) dX8_heartbeat_24 ⟨Nat.le_refl _, Nat.le_refl _⟩ (fun H locs hJ hS => ?_)
      refine lv_goto (tgt := 32) C.1 C.2.1 dX8_heartbeat_27 (by decide) ?_
      obtain ⟨rfl, rfl⟩ := jm_ret_ok hf
      exact jw_ri C hJ hS (Nat.le_refl _) (Nat.le_refl _) dX8_heartbeat_32
  · replace hf := jm_ift hf hq2
    refine lv_iconst (v := (-1)) C.1 C.2.1 dX8_heartbeat_8 (by decide) ?_
    obtain ⟨rfl, rfl⟩ := jm_ret_ok hf
    exact jw_ri C hJ hS (Nat.le_refl _) (Nat.le_refl _) dX8_heartbeat_9
set_option maxHeartbeats 4000000 in
set_option maxRecDepth 100000 in
theorem cX8_heartbeat_C (l : Launch) (G : jm_G) (h0 : Nat) (x1 : Int32) {S Sf : jm_S} {rv : Int32} (hf : fX8_heartbeat h0 x1 S = some (rv, Sf)) : Met l yX8_heartbeat wsX8_heartbeat ({ frames := 3, cells := 0, slots := 0, locals := 77 } : Room) (jm_Pc G S [.ref h0, .int x1]) (jm_Q G (some (.int rv)) Sf) 0 0 (jm_A G) := by
  refine Met.ofW (cc := cX8_heartbeat) (maxL := 2) (ret := (some .int)) (by decide) rfl ?_
  intro p e s m args below meth c s₁ B hml hv
  obtain ⟨rfl, hJ, hX⟩ := hv
  have C : jm_C G cX8_heartbeat 2 RX8 wsX8_heartbeat ((some .int)) p s m _ meth c := ⟨B.exec, B.bytes, hml, findClass_of_methodNamed B.named, atoms_spec (ws := wsX8_heartbeat) B.pre, B.returns, B.notSynchronized, hX⟩
  obtain ⟨ls, he, hl⟩ := jm_entry m [.inr (some h0), .inl x1] (n := 2) (Nat.le_of_ble_eq_true rfl)
  have he : entryFrame m ([.ref h0, .int x1] : List Value).toArray 2 = F0 m 0 ls [] := he
  rw [he]
  exact kX8_heartbeat C h0 x1 hf hJ va_S.rf (hl.sub [0, 1] rfl)
/-! CoordinationServiceModel.leader -/
def fX8_leader (h0 : Nat) : jm_P Int32 := jm_rd (jm_gI (some h0) 9 5) fun v1 => (if v1 = (-8) then jm_ret (-3) else jm_rd (jm_gI (some h0) 9 5) fun v3 => jm_ret v3)
theorem inX8_leader_X8 : ∀ w ∈ wsX80, w ∈ wsX8_leader := fun _ h => List.mem_cons_of_mem _ (List.mem_append_right _ h)
theorem moX8_leader (h0 : Nat) : jm_Mo (fX8_leader h0) := by
  unfold fX8_leader
  exact jm_Mo_rd (fun _ => jm_Mo_if (jm_Mo_ret _) (jm_Mo_rd (fun _ => jm_Mo_ret _)))
set_option maxHeartbeats 4000000 in
set_option maxRecDepth 100000 in
theorem kX8_leader {rv : Int32} {Sf : jm_S} (C : jm_C G cX8_leader 1 RX8 wsX8_leader ((some .int)) p s m args meth c) : ∀ (h0 : Nat) {S : jm_S} {H : Heap} {locs : List Loc} {ls : Array Slot}, fX8_leader h0 S = some (rv, Sf) → jm_J G S H → va_S (jm_A G) s.heap H locs → jm_L ls 1 [(0, .inr (some h0))] → W p l e ({ frames := 0, cells := 0, slots := 0, locals := 0 } : Room) s m args below meth c H locs 0 0 (MQ below (jm_Q G (some (.int rv)) Sf) args s 0 0 (jm_A G)) (F0 m 0 ls []) := by
  intro h0 S H locs ls hf hJ hS hl
  unfold fX8_leader at hf
  refine jw_aload_n C dX8_leader_0 rfl (hl.at 0 rfl) ?_
  obtain ⟨v1, h1, hf⟩ := jm_rd_ok hf
  refine jw_gI (Cn := RX8) (T := TX8) (N := 29) C hJ h1 rfl inX8_leader_X8 (by decide) (jm_w C 1 rfl) (fun _ h => h) dX8_leader_1 ?_
  refine lv_bipush (v := (-8)) C.1 C.2.1 dX8_leader_4 (by decide) ?_
  refine lv_icmp_ne (tgt := 14) C.1 C.2.1 dX8_leader_6 (by decide) (fun hq2 => ?_) (fun hq2 => ?_)
  · replace hf := jm_iff hf hq2
    refine jw_aload_n C dX8_leader_14 rfl (hl.at 0 rfl) ?_
    obtain ⟨v3, h3, hf⟩ := jm_rd_ok hf
    refine jw_gI (Cn := RX8) (T := TX8) (N := 29) C hJ h3 rfl inX8_leader_X8 (by decide) (jm_w C 1 rfl) (fun _ h => h) dX8_leader_15 ?_
    obtain ⟨rfl, rfl⟩ := jm_ret_ok hf
    exact jw_ri C hJ hS (Nat.le_refl _) (Nat.le_refl _) dX8_leader_18
  · replace hf := jm_ift hf hq2
    refine lv_bipush (v := (-3)) C.1 C.2.1 dX8_leader_9 (by decide) ?_
    refine lv_goto (tgt := 18) C.1 C.2.1 dX8_leader_11 (by decide) ?_
    obtain ⟨rfl, rfl⟩ := jm_ret_ok hf
    exact jw_ri C hJ hS (Nat.le_refl _) (Nat.le_refl _) dX8_leader_18
set_option maxHeartbeats 4000000 in
set_option maxRecDepth 100000 in
theorem cX8_leader_C (l : Launch) (G : jm_G) (h0 : Nat) {S Sf : jm_S} {rv : Int32} (hf : fX8_leader h0 S = some (rv, Sf)) : Met l yX8_leader wsX8_leader ({ frames := 0, cells := 0, slots := 0, locals := 0 } : Room) (jm_Pc G S [.ref h0]) (jm_Q G (some (.int rv)) Sf) 0 0 (jm_A G) := by
  refine Met.ofW (cc := cX8_leader) (maxL := 1) (ret := (some .int)) (by decide) rfl ?_
  intro p e s m args below meth c s₁ B hml hv
  obtain ⟨rfl, hJ, hX⟩ := hv
  have C : jm_C G cX8_leader 1 RX8 wsX8_leader ((some .int)) p s m _ meth c := ⟨B.exec, B.bytes, hml, findClass_of_methodNamed B.named, atoms_spec (ws := wsX8_leader) B.pre, B.returns, B.notSynchronized, hX⟩
  obtain ⟨ls, he, hl⟩ := jm_entry m [.inr (some h0)] (n := 1) (Nat.le_of_ble_eq_true rfl)
  have he : entryFrame m ([.ref h0] : List Value).toArray 1 = F0 m 0 ls [] := he
  rw [he]
  exact kX8_leader C h0 hf hJ va_S.rf (hl.sub [0] rfl)
/-! CoordinationServiceModel.lastIdentifier -/
def fX8_lastIdentifier (h0 : Nat) (x1 : Int32) : jm_P Int32 := jm_rd (jm_o (some h0) 9) fun a1 => jm_bd (fX8_isServer a1 x1) fun v1 => (if v1 = 0 then jm_ret (-1) else jm_rd (jm_o (some h0) 9) fun a3 => jm_bd (fX8_lastOfLog a3 x1) fun v3 => jm_ret v3)
theorem moX8_lastIdentifier (h0 : Nat) (x1 : Int32) : jm_Mo (fX8_lastIdentifier h0 x1) := by
  unfold fX8_lastIdentifier
  exact jm_Mo_rd (fun _ => jm_Mo_bd (moX8_isServer _ _) (fun _ => jm_Mo_if (jm_Mo_ret _) (jm_Mo_rd (fun _ => jm_Mo_bd (moX8_lastOfLog _ _) (fun _ => jm_Mo_ret _)))))
set_option maxHeartbeats 4000000 in
set_option maxRecDepth 100000 in
theorem kX8_lastIdentifier {rv : Int32} {Sf : jm_S} (C : jm_C G cX8_lastIdentifier 2 RX8 wsX8_lastIdentifier ((some .int)) p s m args meth c) : ∀ (h0 : Nat) (x1 : Int32) {S : jm_S} {H : Heap} {locs : List Loc} {ls : Array Slot}, fX8_lastIdentifier h0 x1 S = some (rv, Sf) → jm_J G S H → va_S (jm_A G) s.heap H locs → jm_L ls 2 [(0, .inr (some h0)), (1, .inl x1)] → W p l e ({ frames := 2, cells := 0, slots := 0, locals := 46 } : Room) s m args below meth c H locs 0 0 (MQ below (jm_Q G (some (.int rv)) Sf) args s 0 0 (jm_A G)) (F0 m 0 ls []) := by
  intro h0 x1 S H locs ls hf hJ hS hl
  unfold fX8_lastIdentifier at hf
  refine jw_aload_n C dX8_lastIdentifier_0 rfl (hl.at 0 rfl) ?_
  refine lv_iload_n C.1 C.2.1 dX8_lastIdentifier_1 rfl (hl.at 1 rfl) ?_
  obtain ⟨a1, o1, hf⟩ := jm_rd_ok hf
  obtain ⟨v1, S1, h1, hf⟩ := jm_bd_ok hf
  refine jw_cV (q := (RX8, TX8, 29)) C hJ hS o1 rfl (cX8_isServer_C l G a1 x1 h1) (cwV 1 C.2.2.2.2.1 gX8_lastIdentifier_X8_isServer rfl rfl rfl (by decide +kernel) ⟨Nat.le_of_ble_eq_true rfl, Nat.le_of_ble_eq_true rfl⟩) rfl hl.1 rfl (Nat.le_of_ble_eq_true rfl) dX8_lastIdentifier_2 ⟨Nat.le_refl _, Nat.le_refl _⟩ (fun H locs hJ hS => ?_)
  refine lv_if_eq (tgt := 16) C.1 C.2.1 dX8_lastIdentifier_5 (by decide) (fun hq2 => ?_) (fun hq2 => ?_)
  · replace hf := jm_ift hf hq2
    refine lv_iconst (v := (-1)) C.1 C.2.1 dX8_lastIdentifier_16 (by decide) ?_
    obtain ⟨rfl, rfl⟩ := jm_ret_ok hf
    exact jw_ri C hJ hS (Nat.le_refl _) (Nat.le_refl _) dX8_lastIdentifier_17
  · replace hf := jm_iff hf hq2
    refine jw_aload_n C dX8_lastIdentifier_8 rfl (hl.at 0 rfl) ?_
    refine lv_iload_n C.1 C.2.1 dX8_lastIdentifier_9 rfl (hl.at 1 rfl) ?_
    obtain ⟨a3, o3, hf⟩ := jm_rd_ok hf
    obtain ⟨v3, S3, h3, hf⟩ := jm_bd_ok hf
    refine jw_cV (q := (RX8, TX8, 29)) C hJ hS o3 rfl (cX8_lastOfLog_C l G a3 x1 h3) (cwV 1 C.2.2.2.2.1 gX8_lastIdentifier_X8_lastOfLog rfl rfl rfl (by decide +kernel) ⟨Nat.le_of_ble_eq_true rfl, Nat.le_of_ble_eq_true rfl⟩) rfl hl.1 rfl (Nat.le_of_ble_eq_true rfl) dX8_lastIdentifier_10 ⟨Nat.le_refl _, Nat.le_refl _⟩ (fun H locs hJ hS => ?_)
    refine lv_goto (tgt := 17) C.1 C.2.1 dX8_lastIdentifier_13 (by decide) ?_
    obtain ⟨rfl, rfl⟩ := jm_ret_ok hf
    exact jw_ri C hJ hS (Nat.le_refl _) (Nat.le_refl _) dX8_lastIdentifier_17
set_option maxHeartbeats 4000000 in
set_option maxRecDepth 100000 in
theorem cX8_lastIdentifier_C (l : Launch) (G : jm_G) (h0 : Nat) (x1 : Int32) {S Sf : jm_S} {rv : Int32} (hf : fX8_lastIdentifier h0 x1 S = some (rv, Sf)) : Met l yX8_lastIdentifier wsX8_lastIdentifier ({ frames := 2, cells := 0, slots := 0, locals := 46 } : Room) (jm_Pc G S [.ref h0, .int x1]) (jm_Q G (some (.int rv)) Sf) 0 0 (jm_A G) := by
  refine Met.ofW (cc := cX8_lastIdentifier) (maxL := 2) (ret := (some .int)) (by decide) rfl ?_
  intro p e s m args below meth c s₁ B hml hv
  obtain ⟨rfl, hJ, hX⟩ := hv
  have C : jm_C G cX8_lastIdentifier 2 RX8 wsX8_lastIdentifier ((some .int)) p s m _ meth c := ⟨B.exec, B.bytes, hml, findClass_of_methodNamed B.named, atoms_spec (ws := wsX8_lastIdentifier) B.pre, B.returns, B.notSynchronized, hX⟩
  obtain ⟨ls, he, hl⟩ := jm_entry m [.inr (some h0), .inl x1] (n := 2) (Nat.le_of_ble_eq_true rfl)
  have he : entryFrame m ([.ref h0, .int x1] : List Value).toArray 2 = F0 m 0 ls [] := he
  rw [he]
  exact kX8_lastIdentifier C h0 x1 hf hJ va_S.rf (hl.sub [0, 1] rfl)
/-! CoordinationServiceModel.appliedCount -/
def fX8_appliedCount (h0 : Nat) (x1 : Int32) : jm_P Int32 := jm_rd (jm_o (some h0) 9) fun a1 => jm_bd (fX8_isServer a1 x1) fun v1 => (if v1 = 0 then jm_ret (-1) else jm_rd (jm_gR (some h0) 9 4) fun v3 => jm_rd (jm_gi v3 0 x1) fun v4 => jm_ret v4)
theorem inX8_appliedCount_X8 : ∀ w ∈ wsX80, w ∈ wsX8_appliedCount := fun _ h => List.mem_cons_of_mem _ (List.mem_append_right _ h)
theorem moX8_appliedCount (h0 : Nat) (x1 : Int32) : jm_Mo (fX8_appliedCount h0 x1) := by
  unfold fX8_appliedCount
  exact jm_Mo_rd (fun _ => jm_Mo_bd (moX8_isServer _ _) (fun _ => jm_Mo_if (jm_Mo_ret _) (jm_Mo_rd (fun _ => jm_Mo_rd (fun _ => jm_Mo_ret _)))))
set_option maxHeartbeats 4000000 in
set_option maxRecDepth 100000 in
theorem kX8_appliedCount {rv : Int32} {Sf : jm_S} (C : jm_C G cX8_appliedCount 2 RX8 wsX8_appliedCount ((some .int)) p s m args meth c) : ∀ (h0 : Nat) (x1 : Int32) {S : jm_S} {H : Heap} {locs : List Loc} {ls : Array Slot}, fX8_appliedCount h0 x1 S = some (rv, Sf) → jm_J G S H → va_S (jm_A G) s.heap H locs → jm_L ls 2 [(0, .inr (some h0)), (1, .inl x1)] → W p l e ({ frames := 2, cells := 0, slots := 0, locals := 46 } : Room) s m args below meth c H locs 0 0 (MQ below (jm_Q G (some (.int rv)) Sf) args s 0 0 (jm_A G)) (F0 m 0 ls []) := by
  intro h0 x1 S H locs ls hf hJ hS hl
  unfold fX8_appliedCount at hf
  refine jw_aload_n C dX8_appliedCount_0 rfl (hl.at 0 rfl) ?_
  refine lv_iload_n C.1 C.2.1 dX8_appliedCount_1 rfl (hl.at 1 rfl) ?_
  obtain ⟨a1, o1, hf⟩ := jm_rd_ok hf
  obtain ⟨v1, S1, h1, hf⟩ := jm_bd_ok hf
  refine jw_cV (q := (RX8, TX8, 29)) C hJ hS o1 rfl (cX8_isServer_C l G a1 x1 h1) (cwV 1 C.2.2.2.2.1 gX8_appliedCount_X8_isServer rfl rfl rfl (by decide +kernel) ⟨Nat.le_of_ble_eq_true rfl, Nat.le_of_ble_eq_true rfl⟩) rfl hl.1 rfl (Nat.le_of_ble_eq_true rfl) dX8_appliedCount_2 ⟨Nat.le_refl _, Nat.le_refl _⟩ (fun H locs hJ hS => ?_)
  refine lv_if_eq (tgt := 17) C.1 C.2.1 dX8_appliedCount_5 (by decide) (fun hq2 => ?_) (fun hq2 => ?_)
  · replace hf := jm_ift hf hq2
    refine lv_iconst (v := (-1)) C.1 C.2.1 dX8_appliedCount_17 (by decide) ?_
    obtain ⟨rfl, rfl⟩ := jm_ret_ok hf
    exact jw_ri C hJ hS (Nat.le_refl _) (Nat.le_refl _) dX8_appliedCount_18
  · replace hf := jm_iff hf hq2
    refine jw_aload_n C dX8_appliedCount_8 rfl (hl.at 0 rfl) ?_
    obtain ⟨v3, h3, hf⟩ := jm_rd_ok hf
    refine jw_gR (Cn := RX8) (T := TX8) (N := 29) C hJ h3 rfl inX8_appliedCount_X8 (by decide) (jm_w C 1 rfl) (fun _ h => h) dX8_appliedCount_9 ?_
    refine lv_iload_n C.1 C.2.1 dX8_appliedCount_12 rfl (hl.at 1 rfl) ?_
    obtain ⟨v4, h4, hf⟩ := jm_rd_ok hf
    refine jw_iaload C hJ h4 dX8_appliedCount_13 ?_
    refine lv_goto (tgt := 18) C.1 C.2.1 dX8_appliedCount_14 (by decide) ?_
    obtain ⟨rfl, rfl⟩ := jm_ret_ok hf
    exact jw_ri C hJ hS (Nat.le_refl _) (Nat.le_refl _) dX8_appliedCount_18
set_option maxHeartbeats 4000000 in
set_option maxRecDepth 100000 in
theorem cX8_appliedCount_C (l : Launch) (G : jm_G) (h0 : Nat) (x1 : Int32) {S Sf : jm_S} {rv : Int32} (hf : fX8_appliedCount h0 x1 S = some (rv, Sf)) : Met l yX8_appliedCount wsX8_appliedCount ({ frames := 2, cells := 0, slots := 0, locals := 46 } : Room) (jm_Pc G S [.ref h0, .int x1]) (jm_Q G (some (.int rv)) Sf) 0 0 (jm_A G) := by
  refine Met.ofW (cc := cX8_appliedCount) (maxL := 2) (ret := (some .int)) (by decide) rfl ?_
  intro p e s m args below meth c s₁ B hml hv
  obtain ⟨rfl, hJ, hX⟩ := hv
  have C : jm_C G cX8_appliedCount 2 RX8 wsX8_appliedCount ((some .int)) p s m _ meth c := ⟨B.exec, B.bytes, hml, findClass_of_methodNamed B.named, atoms_spec (ws := wsX8_appliedCount) B.pre, B.returns, B.notSynchronized, hX⟩
  obtain ⟨ls, he, hl⟩ := jm_entry m [.inr (some h0), .inl x1] (n := 2) (Nat.le_of_ble_eq_true rfl)
  have he : entryFrame m ([.ref h0, .int x1] : List Value).toArray 2 = F0 m 0 ls [] := he
  rw [he]
  exact kX8_appliedCount C h0 x1 hf hJ va_S.rf (hl.sub [0, 1] rfl)
/-! CoordinationServiceModel.committedCount -/
def fX8_committedCount (h0 : Nat) : jm_P Int32 := jm_rd (jm_gI (some h0) 9 5) fun v1 => (if v1 = (-8) then jm_ret (-2) else jm_rd (jm_gI (some h0) 9 8) fun v3 => jm_ret v3)
theorem inX8_committedCount_X8 : ∀ w ∈ wsX80, w ∈ wsX8_committedCount := fun _ h => List.mem_cons_of_mem _ (List.mem_append_right _ h)
theorem moX8_committedCount (h0 : Nat) : jm_Mo (fX8_committedCount h0) := by
  unfold fX8_committedCount
  exact jm_Mo_rd (fun _ => jm_Mo_if (jm_Mo_ret _) (jm_Mo_rd (fun _ => jm_Mo_ret _)))
set_option maxHeartbeats 4000000 in
set_option maxRecDepth 100000 in
theorem kX8_committedCount {rv : Int32} {Sf : jm_S} (C : jm_C G cX8_committedCount 1 RX8 wsX8_committedCount ((some .int)) p s m args meth c) : ∀ (h0 : Nat) {S : jm_S} {H : Heap} {locs : List Loc} {ls : Array Slot}, fX8_committedCount h0 S = some (rv, Sf) → jm_J G S H → va_S (jm_A G) s.heap H locs → jm_L ls 1 [(0, .inr (some h0))] → W p l e ({ frames := 0, cells := 0, slots := 0, locals := 0 } : Room) s m args below meth c H locs 0 0 (MQ below (jm_Q G (some (.int rv)) Sf) args s 0 0 (jm_A G)) (F0 m 0 ls []) := by
  intro h0 S H locs ls hf hJ hS hl
  unfold fX8_committedCount at hf
  refine jw_aload_n C dX8_committedCount_0 rfl (hl.at 0 rfl) ?_
  obtain ⟨v1, h1, hf⟩ := jm_rd_ok hf
  refine jw_gI (Cn := RX8) (T := TX8) (N := 29) C hJ h1 rfl inX8_committedCount_X8 (by decide) (jm_w C 1 rfl) (fun _ h => h) dX8_committedCount_1 ?_
  refine lv_bipush (v := (-8)) C.1 C.2.1 dX8_committedCount_4 (by decide) ?_
  refine lv_icmp_ne (tgt := 14) C.1 C.2.1 dX8_committedCount_6 (by decide) (fun hq2 => ?_) (fun hq2 => ?_)
  · replace hf := jm_iff hf hq2
    refine jw_aload_n C dX8_committedCount_14 rfl (hl.at 0 rfl) ?_
    obtain ⟨v3, h3, hf⟩ := jm_rd_ok hf
    refine jw_gI (Cn := RX8) (T := TX8) (N := 29) C hJ h3 rfl inX8_committedCount_X8 (by decide) (jm_w C 2 rfl) (fun _ h => h) dX8_committedCount_15 ?_
    obtain ⟨rfl, rfl⟩ := jm_ret_ok hf
    exact jw_ri C hJ hS (Nat.le_refl _) (Nat.le_refl _) dX8_committedCount_18
  · replace hf := jm_ift hf hq2
    refine lv_bipush (v := (-2)) C.1 C.2.1 dX8_committedCount_9 (by decide) ?_
    refine lv_goto (tgt := 18) C.1 C.2.1 dX8_committedCount_11 (by decide) ?_
    obtain ⟨rfl, rfl⟩ := jm_ret_ok hf
    exact jw_ri C hJ hS (Nat.le_refl _) (Nat.le_refl _) dX8_committedCount_18
set_option maxHeartbeats 4000000 in
set_option maxRecDepth 100000 in
theorem cX8_committedCount_C (l : Launch) (G : jm_G) (h0 : Nat) {S Sf : jm_S} {rv : Int32} (hf : fX8_committedCount h0 S = some (rv, Sf)) : Met l yX8_committedCount wsX8_committedCount ({ frames := 0, cells := 0, slots := 0, locals := 0 } : Room) (jm_Pc G S [.ref h0]) (jm_Q G (some (.int rv)) Sf) 0 0 (jm_A G) := by
  refine Met.ofW (cc := cX8_committedCount) (maxL := 1) (ret := (some .int)) (by decide) rfl ?_
  intro p e s m args below meth c s₁ B hml hv
  obtain ⟨rfl, hJ, hX⟩ := hv
  have C : jm_C G cX8_committedCount 1 RX8 wsX8_committedCount ((some .int)) p s m _ meth c := ⟨B.exec, B.bytes, hml, findClass_of_methodNamed B.named, atoms_spec (ws := wsX8_committedCount) B.pre, B.returns, B.notSynchronized, hX⟩
  obtain ⟨ls, he, hl⟩ := jm_entry m [.inr (some h0)] (n := 1) (Nat.le_of_ble_eq_true rfl)
  have he : entryFrame m ([.ref h0] : List Value).toArray 1 = F0 m 0 ls [] := he
  rw [he]
  exact kX8_committedCount C h0 hf hJ va_S.rf (hl.sub [0] rfl)
/-! CoordinationServiceModel.acceptedEpoch -/
def fX8_acceptedEpoch (h0 : Nat) (x1 : Int32) : jm_P Int32 := jm_rd (jm_o (some h0) 9) fun a1 => jm_bd (fX8_isServer a1 x1) fun v1 => (if v1 = 0 then jm_ret (-1) else jm_rd (jm_gR (some h0) 9 3) fun v3 => jm_rd (jm_gi v3 0 x1) fun v4 => jm_ret v4)
theorem inX8_acceptedEpoch_X8 : ∀ w ∈ wsX80, w ∈ wsX8_acceptedEpoch := fun _ h => List.mem_cons_of_mem _ (List.mem_append_right _ h)
theorem moX8_acceptedEpoch (h0 : Nat) (x1 : Int32) : jm_Mo (fX8_acceptedEpoch h0 x1) := by
  unfold fX8_acceptedEpoch
  exact jm_Mo_rd (fun _ => jm_Mo_bd (moX8_isServer _ _) (fun _ => jm_Mo_if (jm_Mo_ret _) (jm_Mo_rd (fun _ => jm_Mo_rd (fun _ => jm_Mo_ret _)))))
set_option maxHeartbeats 4000000 in
set_option maxRecDepth 100000 in
theorem kX8_acceptedEpoch {rv : Int32} {Sf : jm_S} (C : jm_C G cX8_acceptedEpoch 2 RX8 wsX8_acceptedEpoch ((some .int)) p s m args meth c) : ∀ (h0 : Nat) (x1 : Int32) {S : jm_S} {H : Heap} {locs : List Loc} {ls : Array Slot}, fX8_acceptedEpoch h0 x1 S = some (rv, Sf) → jm_J G S H → va_S (jm_A G) s.heap H locs → jm_L ls 2 [(0, .inr (some h0)), (1, .inl x1)] → W p l e ({ frames := 2, cells := 0, slots := 0, locals := 46 } : Room) s m args below meth c H locs 0 0 (MQ below (jm_Q G (some (.int rv)) Sf) args s 0 0 (jm_A G)) (F0 m 0 ls []) := by
  intro h0 x1 S H locs ls hf hJ hS hl
  unfold fX8_acceptedEpoch at hf
  refine jw_aload_n C dX8_acceptedEpoch_0 rfl (hl.at 0 rfl) ?_
  refine lv_iload_n C.1 C.2.1 dX8_acceptedEpoch_1 rfl (hl.at 1 rfl) ?_
  obtain ⟨a1, o1, hf⟩ := jm_rd_ok hf
  obtain ⟨v1, S1, h1, hf⟩ := jm_bd_ok hf
  refine jw_cV (q := (RX8, TX8, 29)) C hJ hS o1 rfl (cX8_isServer_C l G a1 x1 h1) (cwV 1 C.2.2.2.2.1 gX8_acceptedEpoch_X8_isServer rfl rfl rfl (by decide +kernel) ⟨Nat.le_of_ble_eq_true rfl, Nat.le_of_ble_eq_true rfl⟩) rfl hl.1 rfl (Nat.le_of_ble_eq_true rfl) dX8_acceptedEpoch_2 ⟨Nat.le_refl _, Nat.le_refl _⟩ (fun H locs hJ hS => ?_)
  refine lv_if_eq (tgt := 17) C.1 C.2.1 dX8_acceptedEpoch_5 (by decide) (fun hq2 => ?_) (fun hq2 => ?_)
  · replace hf := jm_ift hf hq2
    refine lv_iconst (v := (-1)) C.1 C.2.1 dX8_acceptedEpoch_17 (by decide) ?_
    obtain ⟨rfl, rfl⟩ := jm_ret_ok hf
    exact jw_ri C hJ hS (Nat.le_refl _) (Nat.le_refl _) dX8_acceptedEpoch_18
  · replace hf := jm_iff hf hq2
    refine jw_aload_n C dX8_acceptedEpoch_8 rfl (hl.at 0 rfl) ?_
    obtain ⟨v3, h3, hf⟩ := jm_rd_ok hf
    refine jw_gR (Cn := RX8) (T := TX8) (N := 29) C hJ h3 rfl inX8_acceptedEpoch_X8 (by decide) (jm_w C 1 rfl) (fun _ h => h) dX8_acceptedEpoch_9 ?_
    refine lv_iload_n C.1 C.2.1 dX8_acceptedEpoch_12 rfl (hl.at 1 rfl) ?_
    obtain ⟨v4, h4, hf⟩ := jm_rd_ok hf
    refine jw_iaload C hJ h4 dX8_acceptedEpoch_13 ?_
    refine lv_goto (tgt := 18) C.1 C.2.1 dX8_acceptedEpoch_14 (by decide) ?_
    obtain ⟨rfl, rfl⟩ := jm_ret_ok hf
    exact jw_ri C hJ hS (Nat.le_refl _) (Nat.le_refl _) dX8_acceptedEpoch_18
set_option maxHeartbeats 4000000 in
set_option maxRecDepth 100000 in
theorem cX8_acceptedEpoch_C (l : Launch) (G : jm_G) (h0 : Nat) (x1 : Int32) {S Sf : jm_S} {rv : Int32} (hf : fX8_acceptedEpoch h0 x1 S = some (rv, Sf)) : Met l yX8_acceptedEpoch wsX8_acceptedEpoch ({ frames := 2, cells := 0, slots := 0, locals := 46 } : Room) (jm_Pc G S [.ref h0, .int x1]) (jm_Q G (some (.int rv)) Sf) 0 0 (jm_A G) := by
  refine Met.ofW (cc := cX8_acceptedEpoch) (maxL := 2) (ret := (some .int)) (by decide) rfl ?_
  intro p e s m args below meth c s₁ B hml hv
  obtain ⟨rfl, hJ, hX⟩ := hv
  have C : jm_C G cX8_acceptedEpoch 2 RX8 wsX8_acceptedEpoch ((some .int)) p s m _ meth c := ⟨B.exec, B.bytes, hml, findClass_of_methodNamed B.named, atoms_spec (ws := wsX8_acceptedEpoch) B.pre, B.returns, B.notSynchronized, hX⟩
  obtain ⟨ls, he, hl⟩ := jm_entry m [.inr (some h0), .inl x1] (n := 2) (Nat.le_of_ble_eq_true rfl)
  have he : entryFrame m ([.ref h0, .int x1] : List Value).toArray 2 = F0 m 0 ls [] := he
  rw [he]
  exact kX8_acceptedEpoch C h0 x1 hf hJ va_S.rf (hl.sub [0, 1] rfl)
/-! CoordinationServiceModel.proposes -/
def fX8_proposes (h0 : Nat) (x1 : Int32) (x2 : Int32) (x3 : Int32) (x4 : Int32) : jm_P Int32 := jm_rd (jm_gR (some h0) 9 9) fun v1 => jm_rd (jm_gI (some h0) 9 5) fun v2 => jm_rd (jm_gi v1 0 v2) fun v3 => (if v3 = 40 then jm_ret (-7) else jm_rd (jm_gI (some h0) 9 7) fun v5 => jm_wr (jm_p (some h0) 9 7 (.inl (v5 + 1))) <| jm_rd (jm_gI (some h0) 9 5) fun v7 => jm_rd (jm_gR (some h0) 9 9) fun v8 => jm_rd (jm_gI (some h0) 9 5) fun v9 => jm_rd (jm_gi v8 0 v9) fun v10 => jm_rd (jm_gR (some h0) 9 10) fun v11 => jm_rd (jm_gI (some h0) 9 6) fun v12 => jm_rd (jm_gI (some h0) 9 7) fun v13 => jm_wr (jm_si v11 0 ((40 * v7) + v10) ((1000 * v12) + v13)) <| jm_rd (jm_gR (some h0) 9 11) fun v15 => jm_wr (jm_si v15 0 ((40 * v7) + v10) x1) <| jm_rd (jm_gR (some h0) 9 12) fun v17 => jm_wr (jm_si v17 0 ((40 * v7) + v10) x2) <| jm_rd (jm_gR (some h0) 9 13) fun v19 => jm_wr (jm_si v19 0 ((40 * v7) + v10) x3) <| jm_rd (jm_gR (some h0) 9 14) fun v21 => jm_wr (jm_si v21 0 ((40 * v7) + v10) x4) <| jm_rd (jm_gR (some h0) 9 9) fun v23 => jm_rd (jm_gI (some h0) 9 5) fun v24 => jm_rd (jm_gi v23 0 v24) fun v25 => jm_wr (jm_si v23 0 v24 (v25 + 1)) <| jm_rd (jm_gR (some h0) 9 10) fun v27 => jm_rd (jm_gi v27 0 ((40 * v7) + v10)) fun v28 => jm_ret v28)
theorem inX8_proposes_X8 : ∀ w ∈ wsX80, w ∈ wsX8_proposes := fun _ h => List.mem_cons_of_mem _ (List.mem_append_right _ h)
theorem moX8_proposes (h0 : Nat) (x1 : Int32) (x2 : Int32) (x3 : Int32) (x4 : Int32) : jm_Mo (fX8_proposes h0 x1 x2 x3 x4) := by
  unfold fX8_proposes
  exact jm_Mo_rd (fun _ => jm_Mo_rd (fun _ => jm_Mo_rd (fun _ => jm_Mo_if (jm_Mo_ret _) (jm_Mo_rd (fun _ => jm_Mo_wr jm_p_st (jm_Mo_rd (fun _ => jm_Mo_rd (fun _ => jm_Mo_rd (fun _ => jm_Mo_rd (fun _ => jm_Mo_rd (fun _ => jm_Mo_rd (fun _ => jm_Mo_rd (fun _ => jm_Mo_wr jm_si_st (jm_Mo_rd (fun _ => jm_Mo_wr jm_si_st (jm_Mo_rd (fun _ => jm_Mo_wr jm_si_st (jm_Mo_rd (fun _ => jm_Mo_wr jm_si_st (jm_Mo_rd (fun _ => jm_Mo_wr jm_si_st (jm_Mo_rd (fun _ => jm_Mo_rd (fun _ => jm_Mo_rd (fun _ => jm_Mo_wr jm_si_st (jm_Mo_rd (fun _ => jm_Mo_rd (fun _ => jm_Mo_ret _))))))))))))))))))))))))))))
set_option maxHeartbeats 4000000 in
set_option maxRecDepth 100000 in
theorem kX8_proposes {rv : Int32} {Sf : jm_S} (C : jm_C G cX8_proposes 6 RX8 wsX8_proposes ((some .int)) p s m args meth c) : ∀ (h0 : Nat) (x1 : Int32) (x2 : Int32) (x3 : Int32) (x4 : Int32) {S : jm_S} {H : Heap} {locs : List Loc} {ls : Array Slot}, fX8_proposes h0 x1 x2 x3 x4 S = some (rv, Sf) → jm_J G S H → va_S (jm_A G) s.heap H locs → jm_L ls 6 [(0, .inr (some h0)), (1, .inl x1), (2, .inl x2), (3, .inl x3), (4, .inl x4)] → W p l e ({ frames := 0, cells := 0, slots := 0, locals := 0 } : Room) s m args below meth c H locs 0 0 (MQ below (jm_Q G (some (.int rv)) Sf) args s 0 0 (jm_A G)) (F0 m 0 ls []) := by
  intro h0 x1 x2 x3 x4 S H locs ls hf hJ hS hl
  unfold fX8_proposes at hf
  refine jw_aload_n C dX8_proposes_0 rfl (hl.at 0 rfl) ?_
  obtain ⟨v1, h1, hf⟩ := jm_rd_ok hf
  refine jw_gR (Cn := RX8) (T := TX8) (N := 29) C hJ h1 rfl inX8_proposes_X8 (by decide) (jm_w C 1 rfl) (fun _ h => h) dX8_proposes_1 ?_
  refine jw_aload_n C dX8_proposes_4 rfl (hl.at 0 rfl) ?_
  obtain ⟨v2, h2, hf⟩ := jm_rd_ok hf
  refine jw_gI (Cn := RX8) (T := TX8) (N := 29) C hJ h2 rfl inX8_proposes_X8 (by decide) (jm_w C 2 rfl) (fun _ h => h) dX8_proposes_5 ?_
  obtain ⟨v3, h3, hf⟩ := jm_rd_ok hf
  refine jw_iaload C hJ h3 dX8_proposes_8 ?_
  refine lv_bipush (v := 40) C.1 C.2.1 dX8_proposes_9 (by decide) ?_
  refine lv_icmp_ne (tgt := 17) C.1 C.2.1 dX8_proposes_11 (by decide) (fun hq4 => ?_) (fun hq4 => ?_)
  · replace hf := jm_iff hf hq4
    refine jw_aload_n C dX8_proposes_17 rfl (hl.at 0 rfl) ?_
    refine lv_dup C.1 C.2.1 dX8_proposes_18 (jm_catr _) ?_
    obtain ⟨v5, h5, hf⟩ := jm_rd_ok hf
    refine jw_gI (Cn := RX8) (T := TX8) (N := 29) C hJ h5 rfl inX8_proposes_X8 (by decide) (jm_w C 3 rfl) (fun _ h => h) dX8_proposes_19 ?_
    refine lv_iconst (v := 1) C.1 C.2.1 dX8_proposes_22 (by decide) ?_
    refine lv_iadd C.1 C.2.1 dX8_proposes_23 ?_
    obtain ⟨S6, h6, hf⟩ := jm_wr_ok hf
    refine jw_p (x := .inl (v5 + 1)) (ty := .int) (Cn := RX8) (T := TX8) (N := 29) C hJ hS h6 rfl inX8_proposes_X8 tyX8 tyX8_ok nmX8 (by decide) (jm_w C 3 rfl) (fun _ h => h) rfl (by decide +kernel) rfl rfl dX8_proposes_24 (fun H locs hJ hS => ?_)
    refine lv_bipush (v := 40) C.1 C.2.1 dX8_proposes_27 (by decide) ?_
    refine jw_aload_n C dX8_proposes_29 rfl (hl.at 0 rfl) ?_
    obtain ⟨v7, h7, hf⟩ := jm_rd_ok hf
    refine jw_gI (Cn := RX8) (T := TX8) (N := 29) C hJ h7 rfl inX8_proposes_X8 (by decide) (jm_w C 2 rfl) (fun _ h => h) dX8_proposes_30 ?_
    refine lv_imul C.1 C.2.1 dX8_proposes_33 ?_
    refine jw_aload_n C dX8_proposes_34 rfl (hl.at 0 rfl) ?_
    obtain ⟨v8, h8, hf⟩ := jm_rd_ok hf
    refine jw_gR (Cn := RX8) (T := TX8) (N := 29) C hJ h8 rfl inX8_proposes_X8 (by decide) (jm_w C 1 rfl) (fun _ h => h) dX8_proposes_35 ?_
    refine jw_aload_n C dX8_proposes_38 rfl (hl.at 0 rfl) ?_
    obtain ⟨v9, h9, hf⟩ := jm_rd_ok hf
    refine jw_gI (Cn := RX8) (T := TX8) (N := 29) C hJ h9 rfl inX8_proposes_X8 (by decide) (jm_w C 2 rfl) (fun _ h => h) dX8_proposes_39 ?_
    obtain ⟨v10, h10, hf⟩ := jm_rd_ok hf
    refine jw_iaload C hJ h10 dX8_proposes_42 ?_
    refine lv_iadd C.1 C.2.1 dX8_proposes_43 ?_
    refine jw_istore C dX8_proposes_44 hl (by decide) rfl (fun ls hl => ?_)
    refine jw_aload_n C dX8_proposes_46 rfl (hl.at 1 rfl) ?_
    obtain ⟨v11, h11, hf⟩ := jm_rd_ok hf
    refine jw_gR (Cn := RX8) (T := TX8) (N := 29) C hJ h11 rfl inX8_proposes_X8 (by decide) (jm_w C 4 rfl) (fun _ h => h) dX8_proposes_47 ?_
    refine lv_iload C.1 C.2.1 dX8_proposes_50 (hl.at 0 rfl) ?_
    refine lv_sipush (v := 1000) C.1 C.2.1 dX8_proposes_52 (by decide) ?_
    refine jw_aload_n C dX8_proposes_55 rfl (hl.at 1 rfl) ?_
    obtain ⟨v12, h12, hf⟩ := jm_rd_ok hf
    refine jw_gI (Cn := RX8) (T := TX8) (N := 29) C hJ h12 rfl inX8_proposes_X8 (by decide) (jm_w C 5 rfl) (fun _ h => h) dX8_proposes_56 ?_
    refine lv_imul C.1 C.2.1 dX8_proposes_59 ?_
    refine jw_aload_n C dX8_proposes_60 rfl (hl.at 1 rfl) ?_
    obtain ⟨v13, h13, hf⟩ := jm_rd_ok hf
    refine jw_gI (Cn := RX8) (T := TX8) (N := 29) C hJ h13 rfl inX8_proposes_X8 (by decide) (jm_w C 3 rfl) (fun _ h => h) dX8_proposes_61 ?_
    refine lv_iadd C.1 C.2.1 dX8_proposes_64 ?_
    obtain ⟨S14, h14, hf⟩ := jm_wr_ok hf
    refine jw_iastore C hJ hS h14 dX8_proposes_65 (fun H locs hJ hS => ?_)
    refine jw_aload_n C dX8_proposes_66 rfl (hl.at 1 rfl) ?_
    obtain ⟨v15, h15, hf⟩ := jm_rd_ok hf
    refine jw_gR (Cn := RX8) (T := TX8) (N := 29) C hJ h15 rfl inX8_proposes_X8 (by decide) (jm_w C 6 rfl) (fun _ h => h) dX8_proposes_67 ?_
    refine lv_iload C.1 C.2.1 dX8_proposes_70 (hl.at 0 rfl) ?_
    refine lv_iload_n C.1 C.2.1 dX8_proposes_72 rfl (hl.at 2 rfl) ?_
    obtain ⟨S16, h16, hf⟩ := jm_wr_ok hf
    refine jw_iastore C hJ hS h16 dX8_proposes_73 (fun H locs hJ hS => ?_)
    refine jw_aload_n C dX8_proposes_74 rfl (hl.at 1 rfl) ?_
    obtain ⟨v17, h17, hf⟩ := jm_rd_ok hf
    refine jw_gR (Cn := RX8) (T := TX8) (N := 29) C hJ h17 rfl inX8_proposes_X8 (by decide) (jm_w C 7 rfl) (fun _ h => h) dX8_proposes_75 ?_
    refine lv_iload C.1 C.2.1 dX8_proposes_78 (hl.at 0 rfl) ?_
    refine lv_iload_n C.1 C.2.1 dX8_proposes_80 rfl (hl.at 3 rfl) ?_
    obtain ⟨S18, h18, hf⟩ := jm_wr_ok hf
    refine jw_iastore C hJ hS h18 dX8_proposes_81 (fun H locs hJ hS => ?_)
    refine jw_aload_n C dX8_proposes_82 rfl (hl.at 1 rfl) ?_
    obtain ⟨v19, h19, hf⟩ := jm_rd_ok hf
    refine jw_gR (Cn := RX8) (T := TX8) (N := 29) C hJ h19 rfl inX8_proposes_X8 (by decide) (jm_w C 8 rfl) (fun _ h => h) dX8_proposes_83 ?_
    refine lv_iload C.1 C.2.1 dX8_proposes_86 (hl.at 0 rfl) ?_
    refine lv_iload_n C.1 C.2.1 dX8_proposes_88 rfl (hl.at 4 rfl) ?_
    obtain ⟨S20, h20, hf⟩ := jm_wr_ok hf
    refine jw_iastore C hJ hS h20 dX8_proposes_89 (fun H locs hJ hS => ?_)
    refine jw_aload_n C dX8_proposes_90 rfl (hl.at 1 rfl) ?_
    obtain ⟨v21, h21, hf⟩ := jm_rd_ok hf
    refine jw_gR (Cn := RX8) (T := TX8) (N := 29) C hJ h21 rfl inX8_proposes_X8 (by decide) (jm_w C 9 rfl) (fun _ h => h) dX8_proposes_91 ?_
    refine lv_iload C.1 C.2.1 dX8_proposes_94 (hl.at 0 rfl) ?_
    refine lv_iload C.1 C.2.1 dX8_proposes_96 (hl.at 5 rfl) ?_
    obtain ⟨S22, h22, hf⟩ := jm_wr_ok hf
    refine jw_iastore C hJ hS h22 dX8_proposes_98 (fun H locs hJ hS => ?_)
    refine jw_aload_n C dX8_proposes_99 rfl (hl.at 1 rfl) ?_
    obtain ⟨v23, h23, hf⟩ := jm_rd_ok hf
    refine jw_gR (Cn := RX8) (T := TX8) (N := 29) C hJ h23 rfl inX8_proposes_X8 (by decide) (jm_w C 1 rfl) (fun _ h => h) dX8_proposes_100 ?_
    refine jw_aload_n C dX8_proposes_103 rfl (hl.at 1 rfl) ?_
    obtain ⟨v24, h24, hf⟩ := jm_rd_ok hf
    refine jw_gI (Cn := RX8) (T := TX8) (N := 29) C hJ h24 rfl inX8_proposes_X8 (by decide) (jm_w C 2 rfl) (fun _ h => h) dX8_proposes_104 ?_
    refine lv_dup2_11 C.1 C.2.1 dX8_proposes_107 rfl (jm_catr _) ?_
    obtain ⟨v25, h25, hf⟩ := jm_rd_ok hf
    refine jw_iaload C hJ h25 dX8_proposes_108 ?_
    refine lv_iconst (v := 1) C.1 C.2.1 dX8_proposes_109 (by decide) ?_
    refine lv_iadd C.1 C.2.1 dX8_proposes_110 ?_
    obtain ⟨S26, h26, hf⟩ := jm_wr_ok hf
    refine jw_iastore C hJ hS h26 dX8_proposes_111 (fun H locs hJ hS => ?_)
    refine jw_aload_n C dX8_proposes_112 rfl (hl.at 1 rfl) ?_
    obtain ⟨v27, h27, hf⟩ := jm_rd_ok hf
    refine jw_gR (Cn := RX8) (T := TX8) (N := 29) C hJ h27 rfl inX8_proposes_X8 (by decide) (jm_w C 4 rfl) (fun _ h => h) dX8_proposes_113 ?_
    refine lv_iload C.1 C.2.1 dX8_proposes_116 (hl.at 0 rfl) ?_
    obtain ⟨v28, h28, hf⟩ := jm_rd_ok hf
    refine jw_iaload C hJ h28 dX8_proposes_118 ?_
    obtain ⟨rfl, rfl⟩ := jm_ret_ok hf
    exact jw_ri C hJ hS (Nat.le_refl _) (Nat.le_refl _) dX8_proposes_119
  · replace hf := jm_ift hf hq4
    refine lv_bipush (v := (-7)) C.1 C.2.1 dX8_proposes_14 (by decide) ?_
    obtain ⟨rfl, rfl⟩ := jm_ret_ok hf
    exact jw_ri C hJ hS (Nat.le_refl _) (Nat.le_refl _) dX8_proposes_16
set_option maxHeartbeats 4000000 in
set_option maxRecDepth 100000 in
theorem cX8_proposes_C (l : Launch) (G : jm_G) (h0 : Nat) (x1 : Int32) (x2 : Int32) (x3 : Int32) (x4 : Int32) {S Sf : jm_S} {rv : Int32} (hf : fX8_proposes h0 x1 x2 x3 x4 S = some (rv, Sf)) : Met l yX8_proposes wsX8_proposes ({ frames := 0, cells := 0, slots := 0, locals := 0 } : Room) (jm_Pc G S [.ref h0, .int x1, .int x2, .int x3, .int x4]) (jm_Q G (some (.int rv)) Sf) 0 0 (jm_A G) := by
  refine Met.ofW (cc := cX8_proposes) (maxL := 6) (ret := (some .int)) (by decide) rfl ?_
  intro p e s m args below meth c s₁ B hml hv
  obtain ⟨rfl, hJ, hX⟩ := hv
  have C : jm_C G cX8_proposes 6 RX8 wsX8_proposes ((some .int)) p s m _ meth c := ⟨B.exec, B.bytes, hml, findClass_of_methodNamed B.named, atoms_spec (ws := wsX8_proposes) B.pre, B.returns, B.notSynchronized, hX⟩
  obtain ⟨ls, he, hl⟩ := jm_entry m [.inr (some h0), .inl x1, .inl x2, .inl x3, .inl x4] (n := 6) (Nat.le_of_ble_eq_true rfl)
  have he : entryFrame m ([.ref h0, .int x1, .int x2, .int x3, .int x4] : List Value).toArray 6 = F0 m 0 ls [] := he
  rw [he]
  exact kX8_proposes C h0 x1 x2 x3 x4 hf hJ va_S.rf (hl.sub [0, 1, 2, 3, 4] rfl)
/-! CoordinationServiceModel.isClosed -/
def fX8_isClosed_2 : Nat → Nat → Int32 → Int32 → jm_P Int32
  | 0, _, _, _ => jm_no
  | n + 1, h0, x1, x2 => jm_rd (jm_gR (some h0) 9 9) fun v1 => jm_rd (jm_gI (some h0) 9 5) fun v2 => jm_rd (jm_gi v1 0 v2) fun v3 => (if v3 ≤ x2 then jm_rd (jm_z 0) fun _ => jm_ret 0 else jm_rd (jm_gR (some h0) 9 11) fun v6 => jm_rd (jm_gI (some h0) 9 5) fun v7 => jm_rd (jm_gi v6 0 ((40 * v7) + x2)) fun v8 => (if v8 = 3 then jm_rd (jm_gR (some h0) 9 14) fun v10 => jm_rd (jm_gI (some h0) 9 5) fun v11 => jm_rd (jm_gi v10 0 ((40 * v11) + x2)) fun v12 => (if v12 = x1 then jm_rd (jm_z 1) fun _ => jm_ret 1 else fX8_isClosed_2 n h0 x1 (x2 + 1)) else fX8_isClosed_2 n h0 x1 (x2 + 1)))
def fX8_isClosed (h0 : Nat) (x1 : Int32) : jm_P Int32 := fX8_isClosed_2 4096 h0 x1 0
theorem inX8_isClosed_X8 : ∀ w ∈ wsX80, w ∈ wsX8_isClosed := fun _ h => List.mem_cons_of_mem _ (List.mem_append_right _ h)
theorem moX8_isClosed_2 : ∀ (n : Nat) (h0 : Nat) (x1 : Int32) (x2 : Int32), jm_Mo (fX8_isClosed_2 n h0 x1 x2) := by
  intro n
  induction n with
  | zero =>
    intro h0 x1 x2
    rw [fX8_isClosed_2]
    exact jm_Mo_no
  | succ n ih =>
    intro h0 x1 x2
    rw [fX8_isClosed_2]
    exact jm_Mo_rd (fun _ => jm_Mo_rd (fun _ => jm_Mo_rd (fun _ => jm_Mo_if (jm_Mo_rd (fun _ => jm_Mo_ret _)) (jm_Mo_rd (fun _ => jm_Mo_rd (fun _ => jm_Mo_rd (fun _ => jm_Mo_if (jm_Mo_rd (fun _ => jm_Mo_rd (fun _ => jm_Mo_rd (fun _ => jm_Mo_if (jm_Mo_rd (fun _ => jm_Mo_ret _)) (ih _ _ _))))) (ih _ _ _))))))))
set_option maxHeartbeats 4000000 in
set_option maxRecDepth 100000 in
theorem kX8_isClosed_2 {rv : Int32} {Sf : jm_S} (C : jm_C G cX8_isClosed 3 RX8 wsX8_isClosed ((some .boolean)) p s m args meth c) : ∀ (n : Nat) (h0 : Nat) (x1 : Int32) (x2 : Int32) {S : jm_S} {H : Heap} {locs : List Loc} {ls : Array Slot}, fX8_isClosed_2 n h0 x1 x2 S = some (rv, Sf) → jm_J G S H → va_S (jm_A G) s.heap H locs → jm_L ls 3 [(0, .inr (some h0)), (1, .inl x1), (2, .inl x2)] → W p l e ({ frames := 0, cells := 0, slots := 0, locals := 0 } : Room) s m args below meth c H locs 0 0 (MQ below (jm_Q G (some (.int rv)) Sf) args s 0 0 (jm_A G)) (F0 m 2 ls []) := by
  intro n
  induction n with
  | zero =>
    intro h0 x1 x2 S H locs ls hf
    rw [fX8_isClosed_2] at hf
    exact absurd hf (fun h => jm_no_ok h)
  | succ n ih =>
    intro h0 x1 x2 S H locs ls hf hJ hS hl
    rw [fX8_isClosed_2] at hf
    refine lv_iload_n C.1 C.2.1 dX8_isClosed_2 rfl (hl.at 2 rfl) ?_
    refine jw_aload_n C dX8_isClosed_3 rfl (hl.at 0 rfl) ?_
    obtain ⟨v1, h1, hf⟩ := jm_rd_ok hf
    refine jw_gR (Cn := RX8) (T := TX8) (N := 29) C hJ h1 rfl inX8_isClosed_X8 (by decide) (jm_w C 1 rfl) (fun _ h => h) dX8_isClosed_4 ?_
    refine jw_aload_n C dX8_isClosed_7 rfl (hl.at 0 rfl) ?_
    obtain ⟨v2, h2, hf⟩ := jm_rd_ok hf
    refine jw_gI (Cn := RX8) (T := TX8) (N := 29) C hJ h2 rfl inX8_isClosed_X8 (by decide) (jm_w C 2 rfl) (fun _ h => h) dX8_isClosed_8 ?_
    obtain ⟨v3, h3, hf⟩ := jm_rd_ok hf
    refine jw_iaload C hJ h3 dX8_isClosed_11 ?_
    refine lv_icmp_ge (tgt := 59) C.1 C.2.1 dX8_isClosed_12 (by decide) (fun hq4 => ?_) (fun hq4 => ?_)
    · replace hf := jm_ift hf hq4
      refine lv_iconst (v := 0) C.1 C.2.1 dX8_isClosed_59 (by decide) ?_
      obtain ⟨u5, z5, hf⟩ := jm_rd_ok hf
      obtain ⟨rfl, rfl⟩ := jm_ret_ok hf
      exact jw_rz C hJ hS z5 (Nat.le_refl _) (Nat.le_refl _) dX8_isClosed_60
    · replace hf := jm_iff hf hq4
      refine jw_aload_n C dX8_isClosed_15 rfl (hl.at 0 rfl) ?_
      obtain ⟨v6, h6, hf⟩ := jm_rd_ok hf
      refine jw_gR (Cn := RX8) (T := TX8) (N := 29) C hJ h6 rfl inX8_isClosed_X8 (by decide) (jm_w C 3 rfl) (fun _ h => h) dX8_isClosed_16 ?_
      refine lv_bipush (v := 40) C.1 C.2.1 dX8_isClosed_19 (by decide) ?_
      refine jw_aload_n C dX8_isClosed_21 rfl (hl.at 0 rfl) ?_
      obtain ⟨v7, h7, hf⟩ := jm_rd_ok hf
      refine jw_gI (Cn := RX8) (T := TX8) (N := 29) C hJ h7 rfl inX8_isClosed_X8 (by decide) (jm_w C 2 rfl) (fun _ h => h) dX8_isClosed_22 ?_
      refine lv_imul C.1 C.2.1 dX8_isClosed_25 ?_
      refine lv_iload_n C.1 C.2.1 dX8_isClosed_26 rfl (hl.at 2 rfl) ?_
      refine lv_iadd C.1 C.2.1 dX8_isClosed_27 ?_
      obtain ⟨v8, h8, hf⟩ := jm_rd_ok hf
      refine jw_iaload C hJ h8 dX8_isClosed_28 ?_
      refine lv_iconst (v := 3) C.1 C.2.1 dX8_isClosed_29 (by decide) ?_
      refine lv_icmp_ne (tgt := 53) C.1 C.2.1 dX8_isClosed_30 (by decide) (fun hq9 => ?_) (fun hq9 => ?_)
      · replace hf := jm_iff hf hq9
        refine jw_iinc (v := x2 + 1) C 2 dX8_isClosed_53 hl rfl (by rfl) (by decide) rfl (fun ls hl => ?_)
        refine lv_goto (tgt := 2) C.1 C.2.1 dX8_isClosed_56 (by decide) ?_
        exact ih h0 x1 (x2 + 1) hf hJ hS (hl.sub [1, 2, 0] rfl)
      · replace hf := jm_ift hf hq9
        refine jw_aload_n C dX8_isClosed_33 rfl (hl.at 0 rfl) ?_
        obtain ⟨v10, h10, hf⟩ := jm_rd_ok hf
        refine jw_gR (Cn := RX8) (T := TX8) (N := 29) C hJ h10 rfl inX8_isClosed_X8 (by decide) (jm_w C 4 rfl) (fun _ h => h) dX8_isClosed_34 ?_
        refine lv_bipush (v := 40) C.1 C.2.1 dX8_isClosed_37 (by decide) ?_
        refine jw_aload_n C dX8_isClosed_39 rfl (hl.at 0 rfl) ?_
        obtain ⟨v11, h11, hf⟩ := jm_rd_ok hf
        refine jw_gI (Cn := RX8) (T := TX8) (N := 29) C hJ h11 rfl inX8_isClosed_X8 (by decide) (jm_w C 2 rfl) (fun _ h => h) dX8_isClosed_40 ?_
        refine lv_imul C.1 C.2.1 dX8_isClosed_43 ?_
        refine lv_iload_n C.1 C.2.1 dX8_isClosed_44 rfl (hl.at 2 rfl) ?_
        refine lv_iadd C.1 C.2.1 dX8_isClosed_45 ?_
        obtain ⟨v12, h12, hf⟩ := jm_rd_ok hf
        refine jw_iaload C hJ h12 dX8_isClosed_46 ?_
        refine lv_iload_n C.1 C.2.1 dX8_isClosed_47 rfl (hl.at 1 rfl) ?_
        refine lv_icmp_ne (tgt := 53) C.1 C.2.1 dX8_isClosed_48 (by decide) (fun hq13 => ?_) (fun hq13 => ?_)
        · replace hf := jm_iff hf hq13
          refine jw_iinc (v := x2 + 1) C 2 dX8_isClosed_53 hl rfl (by rfl) (by decide) rfl (fun ls hl => ?_)
          refine lv_goto (tgt := 2) C.1 C.2.1 dX8_isClosed_56 (by decide) ?_
          exact ih h0 x1 (x2 + 1) hf hJ hS (hl.sub [1, 2, 0] rfl)
        · replace hf := jm_ift hf hq13
          refine lv_iconst (v := 1) C.1 C.2.1 dX8_isClosed_51 (by decide) ?_
          obtain ⟨u14, z14, hf⟩ := jm_rd_ok hf
          obtain ⟨rfl, rfl⟩ := jm_ret_ok hf
          exact jw_rz C hJ hS z14 (Nat.le_refl _) (Nat.le_refl _) dX8_isClosed_52
theorem moX8_isClosed (h0 : Nat) (x1 : Int32) : jm_Mo (fX8_isClosed h0 x1) := by
  unfold fX8_isClosed
  exact moX8_isClosed_2 _ _ _ _
set_option maxHeartbeats 4000000 in
set_option maxRecDepth 100000 in
theorem kX8_isClosed {rv : Int32} {Sf : jm_S} (C : jm_C G cX8_isClosed 3 RX8 wsX8_isClosed ((some .boolean)) p s m args meth c) : ∀ (h0 : Nat) (x1 : Int32) {S : jm_S} {H : Heap} {locs : List Loc} {ls : Array Slot}, fX8_isClosed h0 x1 S = some (rv, Sf) → jm_J G S H → va_S (jm_A G) s.heap H locs → jm_L ls 3 [(0, .inr (some h0)), (1, .inl x1)] → W p l e ({ frames := 0, cells := 0, slots := 0, locals := 0 } : Room) s m args below meth c H locs 0 0 (MQ below (jm_Q G (some (.int rv)) Sf) args s 0 0 (jm_A G)) (F0 m 0 ls []) := by
  intro h0 x1 S H locs ls hf hJ hS hl
  unfold fX8_isClosed at hf
  refine lv_iconst (v := 0) C.1 C.2.1 dX8_isClosed_0 (by decide) ?_
  refine jw_istore_n C dX8_isClosed_1 rfl hl (by decide) rfl (fun ls hl => ?_)
  exact kX8_isClosed_2 C 4096 h0 x1 0 hf hJ hS (hl.sub [1, 2, 0] rfl)
set_option maxHeartbeats 4000000 in
set_option maxRecDepth 100000 in
theorem cX8_isClosed_C (l : Launch) (G : jm_G) (h0 : Nat) (x1 : Int32) {S Sf : jm_S} {rv : Int32} (hf : fX8_isClosed h0 x1 S = some (rv, Sf)) : Met l yX8_isClosed wsX8_isClosed ({ frames := 0, cells := 0, slots := 0, locals := 0 } : Room) (jm_Pc G S [.ref h0, .int x1]) (jm_Q G (some (.int rv)) Sf) 0 0 (jm_A G) := by
  refine Met.ofW (cc := cX8_isClosed) (maxL := 3) (ret := (some .boolean)) (by decide) rfl ?_
  intro p e s m args below meth c s₁ B hml hv
  obtain ⟨rfl, hJ, hX⟩ := hv
  have C : jm_C G cX8_isClosed 3 RX8 wsX8_isClosed ((some .boolean)) p s m _ meth c := ⟨B.exec, B.bytes, hml, findClass_of_methodNamed B.named, atoms_spec (ws := wsX8_isClosed) B.pre, B.returns, B.notSynchronized, hX⟩
  obtain ⟨ls, he, hl⟩ := jm_entry m [.inr (some h0), .inl x1] (n := 3) (Nat.le_of_ble_eq_true rfl)
  have he : entryFrame m ([.ref h0, .int x1] : List Value).toArray 3 = F0 m 0 ls [] := he
  rw [he]
  exact kX8_isClosed C h0 x1 hf hJ va_S.rf (hl.sub [0, 1] rfl)
/-! CoordinationServiceModel.create -/
def fX8_create_123 (h0 : Nat) (x1 : Int32) (x2 : Int32) (x3 : Int32) : jm_P Int32 := jm_rd (jm_gR (some h0) 9 15) fun v15 => jm_rd (jm_gi v15 0 5) fun v16 => (if v16 = 12 then jm_ret (-7) else jm_rd (jm_o (some h0) 9) fun a18 => jm_bd (fX8_proposes a18 0 x3 x1 x2) fun v18 => jm_ret v18)
def fX8_create_54 (h0 : Nat) (x1 : Int32) (x2 : Int32) : jm_P Int32 := jm_rd (jm_o (some h0) 9) fun a7 => jm_bd (fX8_laysProposed a7) fun _ => jm_rd (jm_o (some h0) 9) fun a8 => jm_bd (fX8_path a8) fun v8 => (if v8 = 0 then jm_ret (-4) else jm_rd (jm_o (some h0) 9) fun a10 => jm_bd (fX8_find a10 5 v8) fun v10 => (if v10 = (-8) then jm_bd (fX8_parentOf v8) fun v12 => jm_rd (jm_o (some h0) 9) fun a13 => jm_bd (fX8_find a13 5 v12) fun v13 => (if v12 = 0 then fX8_create_123 h0 x1 x2 v8 else (if v13 = (-8) then jm_ret (-3) else jm_rd (jm_gR (some h0) 9 19) fun v20 => jm_rd (jm_gi v20 0 v13) fun v21 => (if v21 = (-8) then fX8_create_123 h0 x1 x2 v8 else jm_ret (-3)))) else jm_ret (-4)))
def fX8_create_28 (h0 : Nat) (x1 : Int32) (x2 : Int32) : jm_P Int32 := jm_rd (jm_gI (some h0) 9 5) fun v4 => (if v4 = (-8) then jm_ret (-2) else (if x2 = (-8) then fX8_create_54 h0 x1 x2 else jm_rd (jm_o (some h0) 9) fun a23 => jm_bd (fX8_isClosed a23 x2) fun v23 => (if v23 = 0 then fX8_create_54 h0 x1 x2 else jm_ret (-2))))
def fX8_create (h0 : Nat) (x1 : Int32) (x2 : Int32) : jm_P Int32 := jm_bd (fX8_in x1.toInt64 0 999) fun v1 => (if v1 = 0 then jm_ret (-1) else (if x2 = (-8) then fX8_create_28 h0 x1 x2 else jm_rd (jm_o (some h0) 9) fun a25 => jm_bd (fX8_isSession a25 x2) fun v25 => (if v25 = 0 then jm_ret (-1) else fX8_create_28 h0 x1 x2)))
theorem inX8_create_X8 : ∀ w ∈ wsX80, w ∈ wsX8_create := fun _ h => List.mem_cons_of_mem _ (List.mem_append_right _ h)
theorem moX8_create_123 (h0 : Nat) (x1 : Int32) (x2 : Int32) (x3 : Int32) : jm_Mo (fX8_create_123 h0 x1 x2 x3) := by
  unfold fX8_create_123
  exact jm_Mo_rd (fun _ => jm_Mo_rd (fun _ => jm_Mo_if (jm_Mo_ret _) (jm_Mo_rd (fun _ => jm_Mo_bd (moX8_proposes _ _ _ _ _) (fun _ => jm_Mo_ret _)))))
set_option maxHeartbeats 4000000 in
set_option maxRecDepth 100000 in
theorem kX8_create_123 {rv : Int32} {Sf : jm_S} (C : jm_C G cX8_create 6 RX8 wsX8_create ((some .int)) p s m args meth c) : ∀ (h0 : Nat) (x1 : Int32) (x2 : Int32) (x3 : Int32) {S : jm_S} {H : Heap} {locs : List Loc} {ls : Array Slot}, fX8_create_123 h0 x1 x2 x3 S = some (rv, Sf) → jm_J G S H → va_S (jm_A G) s.heap H locs → jm_L ls 6 [(0, .inr (some h0)), (1, .inl x1), (2, .inl x2), (3, .inl x3)] → W p l e ({ frames := 3, cells := 0, slots := 0, locals := 75 } : Room) s m args below meth c H locs 0 0 (MQ below (jm_Q G (some (.int rv)) Sf) args s 0 0 (jm_A G)) (F0 m 123 ls []) := by
  intro h0 x1 x2 x3 S H locs ls hf hJ hS hl
  unfold fX8_create_123 at hf
  refine jw_aload_n C dX8_create_123 rfl (hl.at 0 rfl) ?_
  obtain ⟨v15, h15, hf⟩ := jm_rd_ok hf
  refine jw_gR (Cn := RX8) (T := TX8) (N := 29) C hJ h15 rfl inX8_create_X8 (by decide) (jm_w C 4 rfl) (fun _ h => h) dX8_create_124 ?_
  refine lv_iconst (v := 5) C.1 C.2.1 dX8_create_127 (by decide) ?_
  obtain ⟨v16, h16, hf⟩ := jm_rd_ok hf
  refine jw_iaload C hJ h16 dX8_create_128 ?_
  refine lv_bipush (v := 12) C.1 C.2.1 dX8_create_129 (by decide) ?_
  refine lv_icmp_ne (tgt := 139) C.1 C.2.1 dX8_create_131 (by decide) (fun hq17 => ?_) (fun hq17 => ?_)
  · replace hf := jm_iff hf hq17
    refine jw_aload_n C dX8_create_139 rfl (hl.at 0 rfl) ?_
    refine lv_iconst (v := 0) C.1 C.2.1 dX8_create_140 (by decide) ?_
    refine lv_iload_n C.1 C.2.1 dX8_create_141 rfl (hl.at 3 rfl) ?_
    refine lv_iload_n C.1 C.2.1 dX8_create_142 rfl (hl.at 1 rfl) ?_
    refine lv_iload_n C.1 C.2.1 dX8_create_143 rfl (hl.at 2 rfl) ?_
    obtain ⟨a18, o18, hf⟩ := jm_rd_ok hf
    obtain ⟨v18, S18, h18, hf⟩ := jm_bd_ok hf
    refine jw_cV (q := (RX8, TX8, 29)) C hJ hS o18 rfl (cX8_proposes_C l G a18 0 x3 x1 x2 h18) (cwV 4 C.2.2.2.2.1 gX8_create_X8_proposes rfl rfl rfl (by decide +kernel) ⟨Nat.le_of_ble_eq_true rfl, Nat.le_of_ble_eq_true rfl⟩) rfl hl.1 rfl (Nat.le_of_ble_eq_true rfl) dX8_create_144 ⟨Nat.le_refl _, Nat.le_refl _⟩ (fun H locs hJ hS => ?_)
    obtain ⟨rfl, rfl⟩ := jm_ret_ok hf
    exact jw_ri C hJ hS (Nat.le_refl _) (Nat.le_refl _) dX8_create_147
  · replace hf := jm_ift hf hq17
    refine lv_bipush (v := (-7)) C.1 C.2.1 dX8_create_134 (by decide) ?_
    refine lv_goto (tgt := 147) C.1 C.2.1 dX8_create_136 (by decide) ?_
    obtain ⟨rfl, rfl⟩ := jm_ret_ok hf
    exact jw_ri C hJ hS (Nat.le_refl _) (Nat.le_refl _) dX8_create_147
theorem moX8_create_54 (h0 : Nat) (x1 : Int32) (x2 : Int32) : jm_Mo (fX8_create_54 h0 x1 x2) := by
  unfold fX8_create_54
  exact jm_Mo_rd (fun _ => jm_Mo_bd (moX8_laysProposed _) (fun _ => jm_Mo_rd (fun _ => jm_Mo_bd (moX8_path _) (fun _ => jm_Mo_if (jm_Mo_ret _) (jm_Mo_rd (fun _ => jm_Mo_bd (moX8_find _ _ _) (fun _ => jm_Mo_if (jm_Mo_bd (moX8_parentOf _) (fun _ => jm_Mo_rd (fun _ => jm_Mo_bd (moX8_find _ _ _) (fun _ => jm_Mo_if (moX8_create_123 _ _ _ _) (jm_Mo_if (jm_Mo_ret _) (jm_Mo_rd (fun _ => jm_Mo_rd (fun _ => jm_Mo_if (moX8_create_123 _ _ _ _) (jm_Mo_ret _))))))))) (jm_Mo_ret _))))))))
set_option maxHeartbeats 4000000 in
set_option maxRecDepth 100000 in
theorem kX8_create_54 {rv : Int32} {Sf : jm_S} (C : jm_C G cX8_create 6 RX8 wsX8_create ((some .int)) p s m args meth c) : ∀ (h0 : Nat) (x1 : Int32) (x2 : Int32) {S : jm_S} {H : Heap} {locs : List Loc} {ls : Array Slot}, fX8_create_54 h0 x1 x2 S = some (rv, Sf) → jm_J G S H → va_S (jm_A G) s.heap H locs → jm_L ls 6 [(0, .inr (some h0)), (1, .inl x1), (2, .inl x2)] → W p l e ({ frames := 3, cells := 0, slots := 0, locals := 75 } : Room) s m args below meth c H locs 0 0 (MQ below (jm_Q G (some (.int rv)) Sf) args s 0 0 (jm_A G)) (F0 m 54 ls []) := by
  intro h0 x1 x2 S H locs ls hf hJ hS hl
  unfold fX8_create_54 at hf
  refine jw_aload_n C dX8_create_54 rfl (hl.at 0 rfl) ?_
  obtain ⟨a7, o7, hf⟩ := jm_rd_ok hf
  obtain ⟨v7, S7, h7, hf⟩ := jm_bd_ok hf
  refine jw_cV (q := (RX8, TX8, 29)) C hJ hS o7 rfl (cX8_laysProposed_C l G a7 h7) (cwV 0 C.2.2.2.2.1 gX8_create_X8_laysProposed rfl rfl rfl (by decide +kernel) ⟨Nat.le_of_ble_eq_true rfl, Nat.le_of_ble_eq_true rfl⟩) rfl hl.1 rfl (Nat.le_of_ble_eq_true rfl) dX8_create_55 ⟨Nat.le_refl _, Nat.le_refl _⟩ (fun H locs hJ hS => ?_)
  refine jw_aload_n C dX8_create_58 rfl (hl.at 0 rfl) ?_
  obtain ⟨a8, o8, hf⟩ := jm_rd_ok hf
  obtain ⟨v8, S8, h8, hf⟩ := jm_bd_ok hf
  refine jw_cV (q := (RX8, TX8, 29)) C hJ hS o8 rfl (cX8_path_C l G a8 h8) (cwV 0 C.2.2.2.2.1 gX8_create_X8_path rfl rfl rfl (by decide +kernel) ⟨Nat.le_of_ble_eq_true rfl, Nat.le_of_ble_eq_true rfl⟩) rfl hl.1 rfl (Nat.le_of_ble_eq_true rfl) dX8_create_59 ⟨Nat.le_refl _, Nat.le_refl _⟩ (fun H locs hJ hS => ?_)
  refine jw_istore_n C dX8_create_62 rfl hl (by decide) rfl (fun ls hl => ?_)
  refine lv_iload_n C.1 C.2.1 dX8_create_63 rfl (hl.at 0 rfl) ?_
  refine lv_if_eq (tgt := 78) C.1 C.2.1 dX8_create_64 (by decide) (fun hq9 => ?_) (fun hq9 => ?_)
  · replace hf := jm_ift hf hq9
    refine lv_bipush (v := (-4)) C.1 C.2.1 dX8_create_78 (by decide) ?_
    obtain ⟨rfl, rfl⟩ := jm_ret_ok hf
    exact jw_ri C hJ hS (Nat.le_refl _) (Nat.le_refl _) dX8_create_80
  · replace hf := jm_iff hf hq9
    refine jw_aload_n C dX8_create_67 rfl (hl.at 1 rfl) ?_
    refine lv_iconst (v := 5) C.1 C.2.1 dX8_create_68 (by decide) ?_
    refine lv_iload_n C.1 C.2.1 dX8_create_69 rfl (hl.at 0 rfl) ?_
    obtain ⟨a10, o10, hf⟩ := jm_rd_ok hf
    obtain ⟨v10, S10, h10, hf⟩ := jm_bd_ok hf
    refine jw_cV (q := (RX8, TX8, 29)) C hJ hS o10 rfl (cX8_find_C l G a10 5 v8 h10) (cwV 2 C.2.2.2.2.1 gX8_create_X8_find rfl rfl rfl (by decide +kernel) ⟨Nat.le_of_ble_eq_true rfl, Nat.le_of_ble_eq_true rfl⟩) rfl hl.1 rfl (Nat.le_of_ble_eq_true rfl) dX8_create_70 ⟨Nat.le_refl _, Nat.le_refl _⟩ (fun H locs hJ hS => ?_)
    refine lv_bipush (v := (-8)) C.1 C.2.1 dX8_create_73 (by decide) ?_
    refine lv_icmp_eq (tgt := 81) C.1 C.2.1 dX8_create_75 (by decide) (fun hq11 => ?_) (fun hq11 => ?_)
    · replace hf := jm_ift hf hq11
      refine lv_iload_n C.1 C.2.1 dX8_create_81 rfl (hl.at 0 rfl) ?_
      obtain ⟨v12, S12, h12, hf⟩ := jm_bd_ok hf
      refine jw_cS C hJ hS (cX8_parentOf_C l G v8 h12) (va_cwS 1 C.2.2.2.2.1 gX8_create_X8_parentOf rfl rfl rfl (by decide +kernel) ⟨Nat.le_of_ble_eq_true rfl, Nat.le_of_ble_eq_true rfl⟩) rfl hl.1 rfl (Nat.le_of_ble_eq_true rfl) dX8_create_82 ⟨Nat.le_refl _, Nat.le_refl _⟩ (fun H locs hJ hS => ?_)
      refine jw_istore C dX8_create_85 hl (by decide) rfl (fun ls hl => ?_)
      refine jw_aload_n C dX8_create_87 rfl (hl.at 2 rfl) ?_
      refine lv_iconst (v := 5) C.1 C.2.1 dX8_create_88 (by decide) ?_
      refine lv_iload C.1 C.2.1 dX8_create_89 (hl.at 0 rfl) ?_
      obtain ⟨a13, o13, hf⟩ := jm_rd_ok hf
      obtain ⟨v13, S13, h13, hf⟩ := jm_bd_ok hf
      refine jw_cV (q := (RX8, TX8, 29)) C hJ hS o13 rfl (cX8_find_C l G a13 5 v12 h13) (cwV 2 C.2.2.2.2.1 gX8_create_X8_find rfl rfl rfl (by decide +kernel) ⟨Nat.le_of_ble_eq_true rfl, Nat.le_of_ble_eq_true rfl⟩) rfl hl.1 rfl (Nat.le_of_ble_eq_true rfl) dX8_create_91 ⟨Nat.le_refl _, Nat.le_refl _⟩ (fun H locs hJ hS => ?_)
      refine jw_istore C dX8_create_94 hl (by decide) rfl (fun ls hl => ?_)
      refine lv_iload C.1 C.2.1 dX8_create_96 (hl.at 1 rfl) ?_
      refine lv_if_eq (tgt := 123) C.1 C.2.1 dX8_create_98 (by decide) (fun hq14 => ?_) (fun hq14 => ?_)
      · replace hf := jm_ift hf hq14
        exact kX8_create_123 C h0 x1 x2 v8 hf hJ hS (hl.sub [3, 4, 5, 2] rfl)
      · replace hf := jm_iff hf hq14
        refine lv_iload C.1 C.2.1 dX8_create_101 (hl.at 0 rfl) ?_
        refine lv_bipush (v := (-8)) C.1 C.2.1 dX8_create_103 (by decide) ?_
        refine lv_icmp_eq (tgt := 120) C.1 C.2.1 dX8_create_105 (by decide) (fun hq19 => ?_) (fun hq19 => ?_)
        · replace hf := jm_ift hf hq19
          refine lv_bipush (v := (-3)) C.1 C.2.1 dX8_create_120 (by decide) ?_
          obtain ⟨rfl, rfl⟩ := jm_ret_ok hf
          exact jw_ri C hJ hS (Nat.le_refl _) (Nat.le_refl _) dX8_create_122
        · replace hf := jm_iff hf hq19
          refine jw_aload_n C dX8_create_108 rfl (hl.at 3 rfl) ?_
          obtain ⟨v20, h20, hf⟩ := jm_rd_ok hf
          refine jw_gR (Cn := RX8) (T := TX8) (N := 29) C hJ h20 rfl inX8_create_X8 (by decide) (jm_w C 3 rfl) (fun _ h => h) dX8_create_109 ?_
          refine lv_iload C.1 C.2.1 dX8_create_112 (hl.at 0 rfl) ?_
          obtain ⟨v21, h21, hf⟩ := jm_rd_ok hf
          refine jw_iaload C hJ h21 dX8_create_114 ?_
          refine lv_bipush (v := (-8)) C.1 C.2.1 dX8_create_115 (by decide) ?_
          refine lv_icmp_eq (tgt := 123) C.1 C.2.1 dX8_create_117 (by decide) (fun hq22 => ?_) (fun hq22 => ?_)
          · replace hf := jm_ift hf hq22
            exact kX8_create_123 C h0 x1 x2 v8 hf hJ hS (hl.sub [3, 4, 5, 2] rfl)
          · replace hf := jm_iff hf hq22
            refine lv_bipush (v := (-3)) C.1 C.2.1 dX8_create_120 (by decide) ?_
            obtain ⟨rfl, rfl⟩ := jm_ret_ok hf
            exact jw_ri C hJ hS (Nat.le_refl _) (Nat.le_refl _) dX8_create_122
    · replace hf := jm_iff hf hq11
      refine lv_bipush (v := (-4)) C.1 C.2.1 dX8_create_78 (by decide) ?_
      obtain ⟨rfl, rfl⟩ := jm_ret_ok hf
      exact jw_ri C hJ hS (Nat.le_refl _) (Nat.le_refl _) dX8_create_80
theorem moX8_create_28 (h0 : Nat) (x1 : Int32) (x2 : Int32) : jm_Mo (fX8_create_28 h0 x1 x2) := by
  unfold fX8_create_28
  exact jm_Mo_rd (fun _ => jm_Mo_if (jm_Mo_ret _) (jm_Mo_if (moX8_create_54 _ _ _) (jm_Mo_rd (fun _ => jm_Mo_bd (moX8_isClosed _ _) (fun _ => jm_Mo_if (moX8_create_54 _ _ _) (jm_Mo_ret _))))))
set_option maxHeartbeats 4000000 in
set_option maxRecDepth 100000 in
theorem kX8_create_28 {rv : Int32} {Sf : jm_S} (C : jm_C G cX8_create 6 RX8 wsX8_create ((some .int)) p s m args meth c) : ∀ (h0 : Nat) (x1 : Int32) (x2 : Int32) {S : jm_S} {H : Heap} {locs : List Loc} {ls : Array Slot}, fX8_create_28 h0 x1 x2 S = some (rv, Sf) → jm_J G S H → va_S (jm_A G) s.heap H locs → jm_L ls 6 [(0, .inr (some h0)), (1, .inl x1), (2, .inl x2)] → W p l e ({ frames := 3, cells := 0, slots := 0, locals := 75 } : Room) s m args below meth c H locs 0 0 (MQ below (jm_Q G (some (.int rv)) Sf) args s 0 0 (jm_A G)) (F0 m 28 ls []) := by
  intro h0 x1 x2 S H locs ls hf hJ hS hl
  unfold fX8_create_28 at hf
  refine jw_aload_n C dX8_create_28 rfl (hl.at 0 rfl) ?_
  obtain ⟨v4, h4, hf⟩ := jm_rd_ok hf
  refine jw_gI (Cn := RX8) (T := TX8) (N := 29) C hJ h4 rfl inX8_create_X8 (by decide) (jm_w C 2 rfl) (fun _ h => h) dX8_create_29 ?_
  refine lv_bipush (v := (-8)) C.1 C.2.1 dX8_create_32 (by decide) ?_
  refine lv_icmp_eq (tgt := 51) C.1 C.2.1 dX8_create_34 (by decide) (fun hq5 => ?_) (fun hq5 => ?_)
  · replace hf := jm_ift hf hq5
    refine lv_bipush (v := (-2)) C.1 C.2.1 dX8_create_51 (by decide) ?_
    obtain ⟨rfl, rfl⟩ := jm_ret_ok hf
    exact jw_ri C hJ hS (Nat.le_refl _) (Nat.le_refl _) dX8_create_53
  · replace hf := jm_iff hf hq5
    refine lv_iload_n C.1 C.2.1 dX8_create_37 rfl (hl.at 2 rfl) ?_
    refine lv_bipush (v := (-8)) C.1 C.2.1 dX8_create_38 (by decide) ?_
    refine lv_icmp_eq (tgt := 54) C.1 C.2.1 dX8_create_40 (by decide) (fun hq6 => ?_) (fun hq6 => ?_)
    · replace hf := jm_ift hf hq6
      exact kX8_create_54 C h0 x1 x2 hf hJ hS (hl.sub [0, 1, 2] rfl)
    · replace hf := jm_iff hf hq6
      refine jw_aload_n C dX8_create_43 rfl (hl.at 0 rfl) ?_
      refine lv_iload_n C.1 C.2.1 dX8_create_44 rfl (hl.at 2 rfl) ?_
      obtain ⟨a23, o23, hf⟩ := jm_rd_ok hf
      obtain ⟨v23, S23, h23, hf⟩ := jm_bd_ok hf
      refine jw_cV (q := (RX8, TX8, 29)) C hJ hS o23 rfl (cX8_isClosed_C l G a23 x2 h23) (cwV 1 C.2.2.2.2.1 gX8_create_X8_isClosed rfl rfl rfl (by decide +kernel) ⟨Nat.le_of_ble_eq_true rfl, Nat.le_of_ble_eq_true rfl⟩) rfl hl.1 rfl (Nat.le_of_ble_eq_true rfl) dX8_create_45 ⟨Nat.le_refl _, Nat.le_refl _⟩ (fun H locs hJ hS => ?_)
      refine lv_if_eq (tgt := 54) C.1 C.2.1 dX8_create_48 (by decide) (fun hq24 => ?_) (fun hq24 => ?_)
      · replace hf := jm_ift hf hq24
        exact kX8_create_54 C h0 x1 x2 hf hJ hS (hl.sub [0, 1, 2] rfl)
      · replace hf := jm_iff hf hq24
        refine lv_bipush (v := (-2)) C.1 C.2.1 dX8_create_51 (by decide) ?_
        obtain ⟨rfl, rfl⟩ := jm_ret_ok hf
        exact jw_ri C hJ hS (Nat.le_refl _) (Nat.le_refl _) dX8_create_53
theorem moX8_create (h0 : Nat) (x1 : Int32) (x2 : Int32) : jm_Mo (fX8_create h0 x1 x2) := by
  unfold fX8_create
  exact jm_Mo_bd (moX8_in _ _ _) (fun _ => jm_Mo_if (jm_Mo_ret _) (jm_Mo_if (moX8_create_28 _ _ _) (jm_Mo_rd (fun _ => jm_Mo_bd (moX8_isSession _ _) (fun _ => jm_Mo_if (jm_Mo_ret _) (moX8_create_28 _ _ _))))))
set_option maxHeartbeats 4000000 in
set_option maxRecDepth 100000 in
theorem kX8_create {rv : Int32} {Sf : jm_S} (C : jm_C G cX8_create 6 RX8 wsX8_create ((some .int)) p s m args meth c) : ∀ (h0 : Nat) (x1 : Int32) (x2 : Int32) {S : jm_S} {H : Heap} {locs : List Loc} {ls : Array Slot}, fX8_create h0 x1 x2 S = some (rv, Sf) → jm_J G S H → va_S (jm_A G) s.heap H locs → jm_L ls 6 [(0, .inr (some h0)), (1, .inl x1), (2, .inl x2)] → W p l e ({ frames := 3, cells := 0, slots := 0, locals := 75 } : Room) s m args below meth c H locs 0 0 (MQ below (jm_Q G (some (.int rv)) Sf) args s 0 0 (jm_A G)) (F0 m 0 ls []) := by
  intro h0 x1 x2 S H locs ls hf hJ hS hl
  unfold fX8_create at hf
  refine lv_iload_n C.1 C.2.1 dX8_create_0 rfl (hl.at 1 rfl) ?_
  refine lv_i2l C.1 C.2.1 dX8_create_1 rfl ?_
  refine lv_lconst (v := 0) C.1 C.2.1 dX8_create_2 (by decide) ?_
  refine lv_ldc2 (v := 999) C.1 C.2.1 C.2.2.2.1 (jm_w C 1 rfl) dX8_create_3 ?_
  obtain ⟨v1, S1, h1, hf⟩ := jm_bd_ok hf
  refine jw_cS C hJ hS (cX8_in_C l G x1.toInt64 0 999 h1) (va_cwS 3 C.2.2.2.2.1 gX8_create_X8_in rfl rfl rfl (by decide +kernel) ⟨Nat.le_of_ble_eq_true rfl, Nat.le_of_ble_eq_true rfl⟩) rfl hl.1 rfl (Nat.le_of_ble_eq_true rfl) dX8_create_6 ⟨Nat.le_refl _, Nat.le_refl _⟩ (fun H locs hJ hS => ?_)
  refine lv_if_eq (tgt := 26) C.1 C.2.1 dX8_create_9 (by decide) (fun hq2 => ?_) (fun hq2 => ?_)
  · replace hf := jm_ift hf hq2
    refine lv_iconst (v := (-1)) C.1 C.2.1 dX8_create_26 (by decide) ?_
    obtain ⟨rfl, rfl⟩ := jm_ret_ok hf
    exact jw_ri C hJ hS (Nat.le_refl _) (Nat.le_refl _) dX8_create_27
  · replace hf := jm_iff hf hq2
    refine lv_iload_n C.1 C.2.1 dX8_create_12 rfl (hl.at 2 rfl) ?_
    refine lv_bipush (v := (-8)) C.1 C.2.1 dX8_create_13 (by decide) ?_
    refine lv_icmp_eq (tgt := 28) C.1 C.2.1 dX8_create_15 (by decide) (fun hq3 => ?_) (fun hq3 => ?_)
    · replace hf := jm_ift hf hq3
      exact kX8_create_28 C h0 x1 x2 hf hJ hS (hl.sub [0, 1, 2] rfl)
    · replace hf := jm_iff hf hq3
      refine jw_aload_n C dX8_create_18 rfl (hl.at 0 rfl) ?_
      refine lv_iload_n C.1 C.2.1 dX8_create_19 rfl (hl.at 2 rfl) ?_
      obtain ⟨a25, o25, hf⟩ := jm_rd_ok hf
      obtain ⟨v25, S25, h25, hf⟩ := jm_bd_ok hf
      refine jw_cV (q := (RX8, TX8, 29)) C hJ hS o25 rfl (cX8_isSession_C l G a25 x2 h25) (cwV 1 C.2.2.2.2.1 gX8_create_X8_isSession rfl rfl rfl (by decide +kernel) ⟨Nat.le_of_ble_eq_true rfl, Nat.le_of_ble_eq_true rfl⟩) rfl hl.1 rfl (Nat.le_of_ble_eq_true rfl) dX8_create_20 ⟨Nat.le_refl _, Nat.le_refl _⟩ (fun H locs hJ hS => ?_)
      refine lv_if_ne (tgt := 28) C.1 C.2.1 dX8_create_23 (by decide) (fun hq26 => ?_) (fun hq26 => ?_)
      · replace hf := jm_iff hf hq26
        exact kX8_create_28 C h0 x1 x2 hf hJ hS (hl.sub [0, 1, 2] rfl)
      · replace hf := jm_ift hf hq26
        refine lv_iconst (v := (-1)) C.1 C.2.1 dX8_create_26 (by decide) ?_
        obtain ⟨rfl, rfl⟩ := jm_ret_ok hf
        exact jw_ri C hJ hS (Nat.le_refl _) (Nat.le_refl _) dX8_create_27
set_option maxHeartbeats 4000000 in
set_option maxRecDepth 100000 in
theorem cX8_create_C (l : Launch) (G : jm_G) (h0 : Nat) (x1 : Int32) (x2 : Int32) {S Sf : jm_S} {rv : Int32} (hf : fX8_create h0 x1 x2 S = some (rv, Sf)) : Met l yX8_create wsX8_create ({ frames := 3, cells := 0, slots := 0, locals := 75 } : Room) (jm_Pc G S [.ref h0, .int x1, .int x2]) (jm_Q G (some (.int rv)) Sf) 0 0 (jm_A G) := by
  refine Met.ofW (cc := cX8_create) (maxL := 6) (ret := (some .int)) (by decide) rfl ?_
  intro p e s m args below meth c s₁ B hml hv
  obtain ⟨rfl, hJ, hX⟩ := hv
  have C : jm_C G cX8_create 6 RX8 wsX8_create ((some .int)) p s m _ meth c := ⟨B.exec, B.bytes, hml, findClass_of_methodNamed B.named, atoms_spec (ws := wsX8_create) B.pre, B.returns, B.notSynchronized, hX⟩
  obtain ⟨ls, he, hl⟩ := jm_entry m [.inr (some h0), .inl x1, .inl x2] (n := 6) (Nat.le_of_ble_eq_true rfl)
  have he : entryFrame m ([.ref h0, .int x1, .int x2] : List Value).toArray 6 = F0 m 0 ls [] := he
  rw [he]
  exact kX8_create C h0 x1 x2 hf hJ va_S.rf (hl.sub [0, 1, 2] rfl)
/-! CoordinationServiceModel.against -/
def fX8_against (h0 : Nat) (x1 : Int32) : jm_P Int32 := jm_rd (jm_gI (some h0) 9 5) fun v1 => (if v1 = (-8) then jm_ret (-2) else jm_rd (jm_gI (some h0) 9 20) fun v3 => (if v3 = 0 then jm_ret (-2) else jm_rd (jm_o (some h0) 9) fun a5 => jm_bd (fX8_laysProposed a5) fun _ => jm_rd (jm_o (some h0) 9) fun a6 => jm_bd (fX8_path a6) fun v6 => jm_rd (jm_o (some h0) 9) fun a7 => jm_bd (fX8_find a7 5 v6) fun v7 => (if v7 = (-8) then jm_ret (-3) else (if x1 = (-9) then jm_ret 0 else jm_rd (jm_gR (some h0) 9 18) fun v10 => jm_rd (jm_gi v10 0 v7) fun v11 => (if v11 = x1 then jm_ret 0 else jm_ret (-5))))))
theorem inX8_against_X8 : ∀ w ∈ wsX80, w ∈ wsX8_against := fun _ h => List.mem_cons_of_mem _ (List.mem_append_right _ h)
theorem moX8_against (h0 : Nat) (x1 : Int32) : jm_Mo (fX8_against h0 x1) := by
  unfold fX8_against
  exact jm_Mo_rd (fun _ => jm_Mo_if (jm_Mo_ret _) (jm_Mo_rd (fun _ => jm_Mo_if (jm_Mo_ret _) (jm_Mo_rd (fun _ => jm_Mo_bd (moX8_laysProposed _) (fun _ => jm_Mo_rd (fun _ => jm_Mo_bd (moX8_path _) (fun _ => jm_Mo_rd (fun _ => jm_Mo_bd (moX8_find _ _ _) (fun _ => jm_Mo_if (jm_Mo_ret _) (jm_Mo_if (jm_Mo_ret _) (jm_Mo_rd (fun _ => jm_Mo_rd (fun _ => jm_Mo_if (jm_Mo_ret _) (jm_Mo_ret _)))))))))))))))
set_option maxHeartbeats 4000000 in
set_option maxRecDepth 100000 in
theorem kX8_against {rv : Int32} {Sf : jm_S} (C : jm_C G cX8_against 3 RX8 wsX8_against ((some .int)) p s m args meth c) : ∀ (h0 : Nat) (x1 : Int32) {S : jm_S} {H : Heap} {locs : List Loc} {ls : Array Slot}, fX8_against h0 x1 S = some (rv, Sf) → jm_J G S H → va_S (jm_A G) s.heap H locs → jm_L ls 3 [(0, .inr (some h0)), (1, .inl x1)] → W p l e ({ frames := 3, cells := 0, slots := 0, locals := 75 } : Room) s m args below meth c H locs 0 0 (MQ below (jm_Q G (some (.int rv)) Sf) args s 0 0 (jm_A G)) (F0 m 0 ls []) := by
  intro h0 x1 S H locs ls hf hJ hS hl
  unfold fX8_against at hf
  refine jw_aload_n C dX8_against_0 rfl (hl.at 0 rfl) ?_
  obtain ⟨v1, h1, hf⟩ := jm_rd_ok hf
  refine jw_gI (Cn := RX8) (T := TX8) (N := 29) C hJ h1 rfl inX8_against_X8 (by decide) (jm_w C 1 rfl) (fun _ h => h) dX8_against_1 ?_
  refine lv_bipush (v := (-8)) C.1 C.2.1 dX8_against_4 (by decide) ?_
  refine lv_icmp_eq (tgt := 16) C.1 C.2.1 dX8_against_6 (by decide) (fun hq2 => ?_) (fun hq2 => ?_)
  · replace hf := jm_ift hf hq2
    refine lv_bipush (v := (-2)) C.1 C.2.1 dX8_against_16 (by decide) ?_
    obtain ⟨rfl, rfl⟩ := jm_ret_ok hf
    exact jw_ri C hJ hS (Nat.le_refl _) (Nat.le_refl _) dX8_against_18
  · replace hf := jm_iff hf hq2
    refine jw_aload_n C dX8_against_9 rfl (hl.at 0 rfl) ?_
    obtain ⟨v3, h3, hf⟩ := jm_rd_ok hf
    refine jw_gI (Cn := RX8) (T := TX8) (N := 29) C hJ h3 rfl inX8_against_X8 (by decide) (jm_w C 2 rfl) (fun _ h => h) dX8_against_10 ?_
    refine lv_if_ne (tgt := 19) C.1 C.2.1 dX8_against_13 (by decide) (fun hq4 => ?_) (fun hq4 => ?_)
    · replace hf := jm_iff hf hq4
      refine jw_aload_n C dX8_against_19 rfl (hl.at 0 rfl) ?_
      obtain ⟨a5, o5, hf⟩ := jm_rd_ok hf
      obtain ⟨v5, S5, h5, hf⟩ := jm_bd_ok hf
      refine jw_cV (q := (RX8, TX8, 29)) C hJ hS o5 rfl (cX8_laysProposed_C l G a5 h5) (cwV 0 C.2.2.2.2.1 gX8_against_X8_laysProposed rfl rfl rfl (by decide +kernel) ⟨Nat.le_of_ble_eq_true rfl, Nat.le_of_ble_eq_true rfl⟩) rfl hl.1 rfl (Nat.le_of_ble_eq_true rfl) dX8_against_20 ⟨Nat.le_refl _, Nat.le_refl _⟩ (fun H locs hJ hS => ?_)
      refine jw_aload_n C dX8_against_23 rfl (hl.at 0 rfl) ?_
      refine lv_iconst (v := 5) C.1 C.2.1 dX8_against_24 (by decide) ?_
      refine jw_aload_n C dX8_against_25 rfl (hl.at 0 rfl) ?_
      obtain ⟨a6, o6, hf⟩ := jm_rd_ok hf
      obtain ⟨v6, S6, h6, hf⟩ := jm_bd_ok hf
      refine jw_cV (q := (RX8, TX8, 29)) C hJ hS o6 rfl (cX8_path_C l G a6 h6) (cwV 0 C.2.2.2.2.1 gX8_against_X8_path rfl rfl rfl (by decide +kernel) ⟨Nat.le_of_ble_eq_true rfl, Nat.le_of_ble_eq_true rfl⟩) rfl hl.1 rfl (Nat.le_of_ble_eq_true rfl) dX8_against_26 ⟨Nat.le_refl _, Nat.le_refl _⟩ (fun H locs hJ hS => ?_)
      obtain ⟨a7, o7, hf⟩ := jm_rd_ok hf
      obtain ⟨v7, S7, h7, hf⟩ := jm_bd_ok hf
      refine jw_cV (q := (RX8, TX8, 29)) C hJ hS o7 rfl (cX8_find_C l G a7 5 v6 h7) (cwV 2 C.2.2.2.2.1 gX8_against_X8_find rfl rfl rfl (by decide +kernel) ⟨Nat.le_of_ble_eq_true rfl, Nat.le_of_ble_eq_true rfl⟩) rfl hl.1 rfl (Nat.le_of_ble_eq_true rfl) dX8_against_29 ⟨Nat.le_refl _, Nat.le_refl _⟩ (fun H locs hJ hS => ?_)
      refine jw_istore_n C dX8_against_32 rfl hl (by decide) rfl (fun ls hl => ?_)
      refine lv_iload_n C.1 C.2.1 dX8_against_33 rfl (hl.at 0 rfl) ?_
      refine lv_bipush (v := (-8)) C.1 C.2.1 dX8_against_34 (by decide) ?_
      refine lv_icmp_ne (tgt := 42) C.1 C.2.1 dX8_against_36 (by decide) (fun hq8 => ?_) (fun hq8 => ?_)
      · replace hf := jm_iff hf hq8
        refine lv_iload_n C.1 C.2.1 dX8_against_42 rfl (hl.at 2 rfl) ?_
        refine lv_bipush (v := (-9)) C.1 C.2.1 dX8_against_43 (by decide) ?_
        refine lv_icmp_eq (tgt := 63) C.1 C.2.1 dX8_against_45 (by decide) (fun hq9 => ?_) (fun hq9 => ?_)
        · replace hf := jm_ift hf hq9
          refine lv_iconst (v := 0) C.1 C.2.1 dX8_against_63 (by decide) ?_
          obtain ⟨rfl, rfl⟩ := jm_ret_ok hf
          exact jw_ri C hJ hS (Nat.le_refl _) (Nat.le_refl _) dX8_against_64
        · replace hf := jm_iff hf hq9
          refine jw_aload_n C dX8_against_48 rfl (hl.at 1 rfl) ?_
          obtain ⟨v10, h10, hf⟩ := jm_rd_ok hf
          refine jw_gR (Cn := RX8) (T := TX8) (N := 29) C hJ h10 rfl inX8_against_X8 (by decide) (jm_w C 3 rfl) (fun _ h => h) dX8_against_49 ?_
          refine lv_iload_n C.1 C.2.1 dX8_against_52 rfl (hl.at 0 rfl) ?_
          obtain ⟨v11, h11, hf⟩ := jm_rd_ok hf
          refine jw_iaload C hJ h11 dX8_against_53 ?_
          refine lv_iload_n C.1 C.2.1 dX8_against_54 rfl (hl.at 2 rfl) ?_
          refine lv_icmp_eq (tgt := 63) C.1 C.2.1 dX8_against_55 (by decide) (fun hq12 => ?_) (fun hq12 => ?_)
          · replace hf := jm_ift hf hq12
            refine lv_iconst (v := 0) C.1 C.2.1 dX8_against_63 (by decide) ?_
            obtain ⟨rfl, rfl⟩ := jm_ret_ok hf
            exact jw_ri C hJ hS (Nat.le_refl _) (Nat.le_refl _) dX8_against_64
          · replace hf := jm_iff hf hq12
            refine lv_bipush (v := (-5)) C.1 C.2.1 dX8_against_58 (by decide) ?_
            refine lv_goto (tgt := 64) C.1 C.2.1 dX8_against_60 (by decide) ?_
            obtain ⟨rfl, rfl⟩ := jm_ret_ok hf
            exact jw_ri C hJ hS (Nat.le_refl _) (Nat.le_refl _) dX8_against_64
      · replace hf := jm_ift hf hq8
        refine lv_bipush (v := (-3)) C.1 C.2.1 dX8_against_39 (by decide) ?_
        obtain ⟨rfl, rfl⟩ := jm_ret_ok hf
        exact jw_ri C hJ hS (Nat.le_refl _) (Nat.le_refl _) dX8_against_41
    · replace hf := jm_ift hf hq4
      refine lv_bipush (v := (-2)) C.1 C.2.1 dX8_against_16 (by decide) ?_
      obtain ⟨rfl, rfl⟩ := jm_ret_ok hf
      exact jw_ri C hJ hS (Nat.le_refl _) (Nat.le_refl _) dX8_against_18
set_option maxHeartbeats 4000000 in
set_option maxRecDepth 100000 in
theorem cX8_against_C (l : Launch) (G : jm_G) (h0 : Nat) (x1 : Int32) {S Sf : jm_S} {rv : Int32} (hf : fX8_against h0 x1 S = some (rv, Sf)) : Met l yX8_against wsX8_against ({ frames := 3, cells := 0, slots := 0, locals := 75 } : Room) (jm_Pc G S [.ref h0, .int x1]) (jm_Q G (some (.int rv)) Sf) 0 0 (jm_A G) := by
  refine Met.ofW (cc := cX8_against) (maxL := 3) (ret := (some .int)) (by decide) rfl ?_
  intro p e s m args below meth c s₁ B hml hv
  obtain ⟨rfl, hJ, hX⟩ := hv
  have C : jm_C G cX8_against 3 RX8 wsX8_against ((some .int)) p s m _ meth c := ⟨B.exec, B.bytes, hml, findClass_of_methodNamed B.named, atoms_spec (ws := wsX8_against) B.pre, B.returns, B.notSynchronized, hX⟩
  obtain ⟨ls, he, hl⟩ := jm_entry m [.inr (some h0), .inl x1] (n := 3) (Nat.le_of_ble_eq_true rfl)
  have he : entryFrame m ([.ref h0, .int x1] : List Value).toArray 3 = F0 m 0 ls [] := he
  rw [he]
  exact kX8_against C h0 x1 hf hJ va_S.rf (hl.sub [0, 1] rfl)
/-! CoordinationServiceModel.isVersion -/
def fX8_isVersion (x0 : Int32) : jm_P Int32 := (if 0 ≤ x0 then jm_rd (jm_z 1) fun _ => jm_ret 1 else (if x0 = (-9) then jm_rd (jm_z 1) fun _ => jm_ret 1 else jm_rd (jm_z 0) fun _ => jm_ret 0))
theorem moX8_isVersion (x0 : Int32) : jm_Mo (fX8_isVersion x0) := by
  unfold fX8_isVersion
  exact jm_Mo_if (jm_Mo_rd (fun _ => jm_Mo_ret _)) (jm_Mo_if (jm_Mo_rd (fun _ => jm_Mo_ret _)) (jm_Mo_rd (fun _ => jm_Mo_ret _)))
set_option maxHeartbeats 4000000 in
set_option maxRecDepth 100000 in
theorem kX8_isVersion {rv : Int32} {Sf : jm_S} (C : jm_C G cX8_isVersion 1 RX8 wsX8_isVersion ((some .boolean)) p s m args meth c) : ∀ (x0 : Int32) {S : jm_S} {H : Heap} {locs : List Loc} {ls : Array Slot}, fX8_isVersion x0 S = some (rv, Sf) → jm_J G S H → va_S (jm_A G) s.heap H locs → jm_L ls 1 [(0, .inl x0)] → W p l e ({ frames := 0, cells := 0, slots := 0, locals := 0 } : Room) s m args below meth c H locs 0 0 (MQ below (jm_Q G (some (.int rv)) Sf) args s 0 0 (jm_A G)) (F0 m 0 ls []) := by
  intro x0 S H locs ls hf hJ hS hl
  unfold fX8_isVersion at hf
  refine lv_iload_n C.1 C.2.1 dX8_isVersion_0 rfl (hl.at 0 rfl) ?_
  refine lv_if_ge (tgt := 10) C.1 C.2.1 dX8_isVersion_1 (by decide) (fun hq1 => ?_) (fun hq1 => ?_)
  · replace hf := jm_ift hf hq1
    refine lv_iconst (v := 1) C.1 C.2.1 dX8_isVersion_10 (by decide) ?_
    refine lv_goto (tgt := 15) C.1 C.2.1 dX8_isVersion_11 (by decide) ?_
    obtain ⟨u2, z2, hf⟩ := jm_rd_ok hf
    obtain ⟨rfl, rfl⟩ := jm_ret_ok hf
    exact jw_rz C hJ hS z2 (Nat.le_refl _) (Nat.le_refl _) dX8_isVersion_15
  · replace hf := jm_iff hf hq1
    refine lv_iload_n C.1 C.2.1 dX8_isVersion_4 rfl (hl.at 0 rfl) ?_
    refine lv_bipush (v := (-9)) C.1 C.2.1 dX8_isVersion_5 (by decide) ?_
    refine lv_icmp_ne (tgt := 14) C.1 C.2.1 dX8_isVersion_7 (by decide) (fun hq3 => ?_) (fun hq3 => ?_)
    · replace hf := jm_iff hf hq3
      refine lv_iconst (v := 0) C.1 C.2.1 dX8_isVersion_14 (by decide) ?_
      obtain ⟨u4, z4, hf⟩ := jm_rd_ok hf
      obtain ⟨rfl, rfl⟩ := jm_ret_ok hf
      exact jw_rz C hJ hS z4 (Nat.le_refl _) (Nat.le_refl _) dX8_isVersion_15
    · replace hf := jm_ift hf hq3
      refine lv_iconst (v := 1) C.1 C.2.1 dX8_isVersion_10 (by decide) ?_
      refine lv_goto (tgt := 15) C.1 C.2.1 dX8_isVersion_11 (by decide) ?_
      obtain ⟨u5, z5, hf⟩ := jm_rd_ok hf
      obtain ⟨rfl, rfl⟩ := jm_ret_ok hf
      exact jw_rz C hJ hS z5 (Nat.le_refl _) (Nat.le_refl _) dX8_isVersion_15
set_option maxHeartbeats 4000000 in
set_option maxRecDepth 100000 in
theorem cX8_isVersion_C (l : Launch) (G : jm_G) (x0 : Int32) {S Sf : jm_S} {rv : Int32} (hf : fX8_isVersion x0 S = some (rv, Sf)) : Met l yX8_isVersion wsX8_isVersion ({ frames := 0, cells := 0, slots := 0, locals := 0 } : Room) (jm_Pc G S [.int x0]) (jm_Q G (some (.int rv)) Sf) 0 0 (jm_A G) := by
  refine Met.ofW (cc := cX8_isVersion) (maxL := 1) (ret := (some .boolean)) (by decide) rfl ?_
  intro p e s m args below meth c s₁ B hml hv
  obtain ⟨rfl, hJ, hX⟩ := hv
  have C : jm_C G cX8_isVersion 1 RX8 wsX8_isVersion ((some .boolean)) p s m _ meth c := ⟨B.exec, B.bytes, hml, findClass_of_methodNamed B.named, atoms_spec (ws := wsX8_isVersion) B.pre, B.returns, B.notSynchronized, hX⟩
  obtain ⟨ls, he, hl⟩ := jm_entry m [.inl x0] (n := 1) (Nat.le_of_ble_eq_true rfl)
  have he : entryFrame m ([.int x0] : List Value).toArray 1 = F0 m 0 ls [] := he
  rw [he]
  exact kX8_isVersion C x0 hf hJ va_S.rf (hl.sub [0] rfl)
/-! CoordinationServiceModel.setData -/
def fX8_setData (h0 : Nat) (x1 : Int32) (x2 : Int32) : jm_P Int32 := jm_bd (fX8_in x1.toInt64 0 999) fun v1 => (if v1 = 0 then jm_ret (-1) else jm_bd (fX8_isVersion x2) fun v3 => (if v3 = 0 then jm_ret (-1) else jm_rd (jm_o (some h0) 9) fun a5 => jm_bd (fX8_against a5 x2) fun v5 => (if v5 = 0 then jm_rd (jm_o (some h0) 9) fun a7 => jm_bd (fX8_path a7) fun v7 => jm_rd (jm_o (some h0) 9) fun a8 => jm_bd (fX8_proposes a8 1 v7 x1 (-8)) fun v8 => jm_ret v8 else jm_ret v5)))
theorem moX8_setData (h0 : Nat) (x1 : Int32) (x2 : Int32) : jm_Mo (fX8_setData h0 x1 x2) := by
  unfold fX8_setData
  exact jm_Mo_bd (moX8_in _ _ _) (fun _ => jm_Mo_if (jm_Mo_ret _) (jm_Mo_bd (moX8_isVersion _) (fun _ => jm_Mo_if (jm_Mo_ret _) (jm_Mo_rd (fun _ => jm_Mo_bd (moX8_against _ _) (fun _ => jm_Mo_if (jm_Mo_rd (fun _ => jm_Mo_bd (moX8_path _) (fun _ => jm_Mo_rd (fun _ => jm_Mo_bd (moX8_proposes _ _ _ _ _) (fun _ => jm_Mo_ret _))))) (jm_Mo_ret _)))))))
set_option maxHeartbeats 4000000 in
set_option maxRecDepth 100000 in
theorem kX8_setData {rv : Int32} {Sf : jm_S} (C : jm_C G cX8_setData 4 RX8 wsX8_setData ((some .int)) p s m args meth c) : ∀ (h0 : Nat) (x1 : Int32) (x2 : Int32) {S : jm_S} {H : Heap} {locs : List Loc} {ls : Array Slot}, fX8_setData h0 x1 x2 S = some (rv, Sf) → jm_J G S H → va_S (jm_A G) s.heap H locs → jm_L ls 4 [(0, .inr (some h0)), (1, .inl x1), (2, .inl x2)] → W p l e ({ frames := 4, cells := 0, slots := 0, locals := 97 } : Room) s m args below meth c H locs 0 0 (MQ below (jm_Q G (some (.int rv)) Sf) args s 0 0 (jm_A G)) (F0 m 0 ls []) := by
  intro h0 x1 x2 S H locs ls hf hJ hS hl
  unfold fX8_setData at hf
  refine lv_iload_n C.1 C.2.1 dX8_setData_0 rfl (hl.at 1 rfl) ?_
  refine lv_i2l C.1 C.2.1 dX8_setData_1 rfl ?_
  refine lv_lconst (v := 0) C.1 C.2.1 dX8_setData_2 (by decide) ?_
  refine lv_ldc2 (v := 999) C.1 C.2.1 C.2.2.2.1 (jm_w C 1 rfl) dX8_setData_3 ?_
  obtain ⟨v1, S1, h1, hf⟩ := jm_bd_ok hf
  refine jw_cS C hJ hS (cX8_in_C l G x1.toInt64 0 999 h1) (va_cwS 3 C.2.2.2.2.1 gX8_setData_X8_in rfl rfl rfl (by decide +kernel) ⟨Nat.le_of_ble_eq_true rfl, Nat.le_of_ble_eq_true rfl⟩) rfl hl.1 rfl (Nat.le_of_ble_eq_true rfl) dX8_setData_6 ⟨Nat.le_refl _, Nat.le_refl _⟩ (fun H locs hJ hS => ?_)
  refine lv_if_eq (tgt := 19) C.1 C.2.1 dX8_setData_9 (by decide) (fun hq2 => ?_) (fun hq2 => ?_)
  · replace hf := jm_ift hf hq2
    refine lv_iconst (v := (-1)) C.1 C.2.1 dX8_setData_19 (by decide) ?_
    obtain ⟨rfl, rfl⟩ := jm_ret_ok hf
    exact jw_ri C hJ hS (Nat.le_refl _) (Nat.le_refl _) dX8_setData_20
  · replace hf := jm_iff hf hq2
    refine lv_iload_n C.1 C.2.1 dX8_setData_12 rfl (hl.at 2 rfl) ?_
    obtain ⟨v3, S3, h3, hf⟩ := jm_bd_ok hf
    refine jw_cS C hJ hS (cX8_isVersion_C l G x2 h3) (va_cwS 1 C.2.2.2.2.1 gX8_setData_X8_isVersion rfl rfl rfl (by decide +kernel) ⟨Nat.le_of_ble_eq_true rfl, Nat.le_of_ble_eq_true rfl⟩) rfl hl.1 rfl (Nat.le_of_ble_eq_true rfl) dX8_setData_13 ⟨Nat.le_refl _, Nat.le_refl _⟩ (fun H locs hJ hS => ?_)
    refine lv_if_ne (tgt := 21) C.1 C.2.1 dX8_setData_16 (by decide) (fun hq4 => ?_) (fun hq4 => ?_)
    · replace hf := jm_iff hf hq4
      refine jw_aload_n C dX8_setData_21 rfl (hl.at 0 rfl) ?_
      refine lv_iload_n C.1 C.2.1 dX8_setData_22 rfl (hl.at 2 rfl) ?_
      obtain ⟨a5, o5, hf⟩ := jm_rd_ok hf
      obtain ⟨v5, S5, h5, hf⟩ := jm_bd_ok hf
      refine jw_cV (q := (RX8, TX8, 29)) C hJ hS o5 rfl (cX8_against_C l G a5 x2 h5) (cwV 1 C.2.2.2.2.1 gX8_setData_X8_against rfl rfl rfl (by decide +kernel) ⟨Nat.le_of_ble_eq_true rfl, Nat.le_of_ble_eq_true rfl⟩) rfl hl.1 rfl (Nat.le_of_ble_eq_true rfl) dX8_setData_23 ⟨Nat.le_refl _, Nat.le_refl _⟩ (fun H locs hJ hS => ?_)
      refine jw_istore_n C dX8_setData_26 rfl hl (by decide) rfl (fun ls hl => ?_)
      refine lv_iload_n C.1 C.2.1 dX8_setData_27 rfl (hl.at 0 rfl) ?_
      refine lv_if_eq (tgt := 35) C.1 C.2.1 dX8_setData_28 (by decide) (fun hq6 => ?_) (fun hq6 => ?_)
      · replace hf := jm_ift hf hq6
        refine jw_aload_n C dX8_setData_35 rfl (hl.at 1 rfl) ?_
        refine lv_iconst (v := 1) C.1 C.2.1 dX8_setData_36 (by decide) ?_
        refine jw_aload_n C dX8_setData_37 rfl (hl.at 1 rfl) ?_
        obtain ⟨a7, o7, hf⟩ := jm_rd_ok hf
        obtain ⟨v7, S7, h7, hf⟩ := jm_bd_ok hf
        refine jw_cV (q := (RX8, TX8, 29)) C hJ hS o7 rfl (cX8_path_C l G a7 h7) (cwV 0 C.2.2.2.2.1 gX8_setData_X8_path rfl rfl rfl (by decide +kernel) ⟨Nat.le_of_ble_eq_true rfl, Nat.le_of_ble_eq_true rfl⟩) rfl hl.1 rfl (Nat.le_of_ble_eq_true rfl) dX8_setData_38 ⟨Nat.le_refl _, Nat.le_refl _⟩ (fun H locs hJ hS => ?_)
        refine lv_iload_n C.1 C.2.1 dX8_setData_41 rfl (hl.at 2 rfl) ?_
        refine lv_bipush (v := (-8)) C.1 C.2.1 dX8_setData_42 (by decide) ?_
        obtain ⟨a8, o8, hf⟩ := jm_rd_ok hf
        obtain ⟨v8, S8, h8, hf⟩ := jm_bd_ok hf
        refine jw_cV (q := (RX8, TX8, 29)) C hJ hS o8 rfl (cX8_proposes_C l G a8 1 v7 x1 (-8) h8) (cwV 4 C.2.2.2.2.1 gX8_setData_X8_proposes rfl rfl rfl (by decide +kernel) ⟨Nat.le_of_ble_eq_true rfl, Nat.le_of_ble_eq_true rfl⟩) rfl hl.1 rfl (Nat.le_of_ble_eq_true rfl) dX8_setData_44 ⟨Nat.le_refl _, Nat.le_refl _⟩ (fun H locs hJ hS => ?_)
        obtain ⟨rfl, rfl⟩ := jm_ret_ok hf
        exact jw_ri C hJ hS (Nat.le_refl _) (Nat.le_refl _) dX8_setData_47
      · replace hf := jm_iff hf hq6
        refine lv_iload_n C.1 C.2.1 dX8_setData_31 rfl (hl.at 0 rfl) ?_
        refine lv_goto (tgt := 47) C.1 C.2.1 dX8_setData_32 (by decide) ?_
        obtain ⟨rfl, rfl⟩ := jm_ret_ok hf
        exact jw_ri C hJ hS (Nat.le_refl _) (Nat.le_refl _) dX8_setData_47
    · replace hf := jm_ift hf hq4
      refine lv_iconst (v := (-1)) C.1 C.2.1 dX8_setData_19 (by decide) ?_
      obtain ⟨rfl, rfl⟩ := jm_ret_ok hf
      exact jw_ri C hJ hS (Nat.le_refl _) (Nat.le_refl _) dX8_setData_20
set_option maxHeartbeats 4000000 in
set_option maxRecDepth 100000 in
theorem cX8_setData_C (l : Launch) (G : jm_G) (h0 : Nat) (x1 : Int32) (x2 : Int32) {S Sf : jm_S} {rv : Int32} (hf : fX8_setData h0 x1 x2 S = some (rv, Sf)) : Met l yX8_setData wsX8_setData ({ frames := 4, cells := 0, slots := 0, locals := 97 } : Room) (jm_Pc G S [.ref h0, .int x1, .int x2]) (jm_Q G (some (.int rv)) Sf) 0 0 (jm_A G) := by
  refine Met.ofW (cc := cX8_setData) (maxL := 4) (ret := (some .int)) (by decide) rfl ?_
  intro p e s m args below meth c s₁ B hml hv
  obtain ⟨rfl, hJ, hX⟩ := hv
  have C : jm_C G cX8_setData 4 RX8 wsX8_setData ((some .int)) p s m _ meth c := ⟨B.exec, B.bytes, hml, findClass_of_methodNamed B.named, atoms_spec (ws := wsX8_setData) B.pre, B.returns, B.notSynchronized, hX⟩
  obtain ⟨ls, he, hl⟩ := jm_entry m [.inr (some h0), .inl x1, .inl x2] (n := 4) (Nat.le_of_ble_eq_true rfl)
  have he : entryFrame m ([.ref h0, .int x1, .int x2] : List Value).toArray 4 = F0 m 0 ls [] := he
  rw [he]
  exact kX8_setData C h0 x1 x2 hf hJ va_S.rf (hl.sub [0, 1, 2] rfl)
/-! CoordinationServiceModel.delete -/
def fX8_delete (h0 : Nat) (x1 : Int32) : jm_P Int32 := jm_bd (fX8_isVersion x1) fun v1 => (if v1 = 0 then jm_ret (-1) else jm_rd (jm_o (some h0) 9) fun a3 => jm_bd (fX8_against a3 x1) fun v3 => (if v3 = 0 then jm_rd (jm_o (some h0) 9) fun a5 => jm_bd (fX8_path a5) fun v5 => jm_rd (jm_o (some h0) 9) fun a6 => jm_bd (fX8_children a6 5 v5) fun v6 => (if v6 ≤ 0 then jm_rd (jm_o (some h0) 9) fun a8 => jm_bd (fX8_path a8) fun v8 => jm_rd (jm_o (some h0) 9) fun a9 => jm_bd (fX8_proposes a9 2 v8 0 (-8)) fun v9 => jm_ret v9 else jm_ret (-6)) else jm_ret v3))
theorem moX8_delete (h0 : Nat) (x1 : Int32) : jm_Mo (fX8_delete h0 x1) := by
  unfold fX8_delete
  exact jm_Mo_bd (moX8_isVersion _) (fun _ => jm_Mo_if (jm_Mo_ret _) (jm_Mo_rd (fun _ => jm_Mo_bd (moX8_against _ _) (fun _ => jm_Mo_if (jm_Mo_rd (fun _ => jm_Mo_bd (moX8_path _) (fun _ => jm_Mo_rd (fun _ => jm_Mo_bd (moX8_children _ _ _) (fun _ => jm_Mo_if (jm_Mo_rd (fun _ => jm_Mo_bd (moX8_path _) (fun _ => jm_Mo_rd (fun _ => jm_Mo_bd (moX8_proposes _ _ _ _ _) (fun _ => jm_Mo_ret _))))) (jm_Mo_ret _)))))) (jm_Mo_ret _)))))
set_option maxHeartbeats 4000000 in
set_option maxRecDepth 100000 in
theorem kX8_delete {rv : Int32} {Sf : jm_S} (C : jm_C G cX8_delete 3 RX8 wsX8_delete ((some .int)) p s m args meth c) : ∀ (h0 : Nat) (x1 : Int32) {S : jm_S} {H : Heap} {locs : List Loc} {ls : Array Slot}, fX8_delete h0 x1 S = some (rv, Sf) → jm_J G S H → va_S (jm_A G) s.heap H locs → jm_L ls 3 [(0, .inr (some h0)), (1, .inl x1)] → W p l e ({ frames := 4, cells := 0, slots := 0, locals := 97 } : Room) s m args below meth c H locs 0 0 (MQ below (jm_Q G (some (.int rv)) Sf) args s 0 0 (jm_A G)) (F0 m 0 ls []) := by
  intro h0 x1 S H locs ls hf hJ hS hl
  unfold fX8_delete at hf
  refine lv_iload_n C.1 C.2.1 dX8_delete_0 rfl (hl.at 1 rfl) ?_
  obtain ⟨v1, S1, h1, hf⟩ := jm_bd_ok hf
  refine jw_cS C hJ hS (cX8_isVersion_C l G x1 h1) (va_cwS 1 C.2.2.2.2.1 gX8_delete_X8_isVersion rfl rfl rfl (by decide +kernel) ⟨Nat.le_of_ble_eq_true rfl, Nat.le_of_ble_eq_true rfl⟩) rfl hl.1 rfl (Nat.le_of_ble_eq_true rfl) dX8_delete_1 ⟨Nat.le_refl _, Nat.le_refl _⟩ (fun H locs hJ hS => ?_)
  refine lv_if_ne (tgt := 9) C.1 C.2.1 dX8_delete_4 (by decide) (fun hq2 => ?_) (fun hq2 => ?_)
  · replace hf := jm_iff hf hq2
    refine jw_aload_n C dX8_delete_9 rfl (hl.at 0 rfl) ?_
    refine lv_iload_n C.1 C.2.1 dX8_delete_10 rfl (hl.at 1 rfl) ?_
    obtain ⟨a3, o3, hf⟩ := jm_rd_ok hf
    obtain ⟨v3, S3, h3, hf⟩ := jm_bd_ok hf
    refine jw_cV (q := (RX8, TX8, 29)) C hJ hS o3 rfl (cX8_against_C l G a3 x1 h3) (cwV 1 C.2.2.2.2.1 gX8_delete_X8_against rfl rfl rfl (by decide +kernel) ⟨Nat.le_of_ble_eq_true rfl, Nat.le_of_ble_eq_true rfl⟩) rfl hl.1 rfl (Nat.le_of_ble_eq_true rfl) dX8_delete_11 ⟨Nat.le_refl _, Nat.le_refl _⟩ (fun H locs hJ hS => ?_)
    refine jw_istore_n C dX8_delete_14 rfl hl (by decide) rfl (fun ls hl => ?_)
    refine lv_iload_n C.1 C.2.1 dX8_delete_15 rfl (hl.at 0 rfl) ?_
    refine lv_if_eq (tgt := 21) C.1 C.2.1 dX8_delete_16 (by decide) (fun hq4 => ?_) (fun hq4 => ?_)
    · replace hf := jm_ift hf hq4
      refine jw_aload_n C dX8_delete_21 rfl (hl.at 1 rfl) ?_
      refine lv_iconst (v := 5) C.1 C.2.1 dX8_delete_22 (by decide) ?_
      refine jw_aload_n C dX8_delete_23 rfl (hl.at 1 rfl) ?_
      obtain ⟨a5, o5, hf⟩ := jm_rd_ok hf
      obtain ⟨v5, S5, h5, hf⟩ := jm_bd_ok hf
      refine jw_cV (q := (RX8, TX8, 29)) C hJ hS o5 rfl (cX8_path_C l G a5 h5) (cwV 0 C.2.2.2.2.1 gX8_delete_X8_path rfl rfl rfl (by decide +kernel) ⟨Nat.le_of_ble_eq_true rfl, Nat.le_of_ble_eq_true rfl⟩) rfl hl.1 rfl (Nat.le_of_ble_eq_true rfl) dX8_delete_24 ⟨Nat.le_refl _, Nat.le_refl _⟩ (fun H locs hJ hS => ?_)
      obtain ⟨a6, o6, hf⟩ := jm_rd_ok hf
      obtain ⟨v6, S6, h6, hf⟩ := jm_bd_ok hf
      refine jw_cV (q := (RX8, TX8, 29)) C hJ hS o6 rfl (cX8_children_C l G a6 5 v5 h6) (cwV 2 C.2.2.2.2.1 gX8_delete_X8_children rfl rfl rfl (by decide +kernel) ⟨Nat.le_of_ble_eq_true rfl, Nat.le_of_ble_eq_true rfl⟩) rfl hl.1 rfl (Nat.le_of_ble_eq_true rfl) dX8_delete_27 ⟨Nat.le_refl _, Nat.le_refl _⟩ (fun H locs hJ hS => ?_)
      refine lv_if_le (tgt := 38) C.1 C.2.1 dX8_delete_30 (by decide) (fun hq7 => ?_) (fun hq7 => ?_)
      · replace hf := jm_ift hf hq7
        refine jw_aload_n C dX8_delete_38 rfl (hl.at 1 rfl) ?_
        refine lv_iconst (v := 2) C.1 C.2.1 dX8_delete_39 (by decide) ?_
        refine jw_aload_n C dX8_delete_40 rfl (hl.at 1 rfl) ?_
        obtain ⟨a8, o8, hf⟩ := jm_rd_ok hf
        obtain ⟨v8, S8, h8, hf⟩ := jm_bd_ok hf
        refine jw_cV (q := (RX8, TX8, 29)) C hJ hS o8 rfl (cX8_path_C l G a8 h8) (cwV 0 C.2.2.2.2.1 gX8_delete_X8_path rfl rfl rfl (by decide +kernel) ⟨Nat.le_of_ble_eq_true rfl, Nat.le_of_ble_eq_true rfl⟩) rfl hl.1 rfl (Nat.le_of_ble_eq_true rfl) dX8_delete_41 ⟨Nat.le_refl _, Nat.le_refl _⟩ (fun H locs hJ hS => ?_)
        refine lv_iconst (v := 0) C.1 C.2.1 dX8_delete_44 (by decide) ?_
        refine lv_bipush (v := (-8)) C.1 C.2.1 dX8_delete_45 (by decide) ?_
        obtain ⟨a9, o9, hf⟩ := jm_rd_ok hf
        obtain ⟨v9, S9, h9, hf⟩ := jm_bd_ok hf
        refine jw_cV (q := (RX8, TX8, 29)) C hJ hS o9 rfl (cX8_proposes_C l G a9 2 v8 0 (-8) h9) (cwV 4 C.2.2.2.2.1 gX8_delete_X8_proposes rfl rfl rfl (by decide +kernel) ⟨Nat.le_of_ble_eq_true rfl, Nat.le_of_ble_eq_true rfl⟩) rfl hl.1 rfl (Nat.le_of_ble_eq_true rfl) dX8_delete_47 ⟨Nat.le_refl _, Nat.le_refl _⟩ (fun H locs hJ hS => ?_)
        obtain ⟨rfl, rfl⟩ := jm_ret_ok hf
        exact jw_ri C hJ hS (Nat.le_refl _) (Nat.le_refl _) dX8_delete_50
      · replace hf := jm_iff hf hq7
        refine lv_bipush (v := (-6)) C.1 C.2.1 dX8_delete_33 (by decide) ?_
        refine lv_goto (tgt := 50) C.1 C.2.1 dX8_delete_35 (by decide) ?_
        obtain ⟨rfl, rfl⟩ := jm_ret_ok hf
        exact jw_ri C hJ hS (Nat.le_refl _) (Nat.le_refl _) dX8_delete_50
    · replace hf := jm_iff hf hq4
      refine lv_iload_n C.1 C.2.1 dX8_delete_19 rfl (hl.at 0 rfl) ?_
      obtain ⟨rfl, rfl⟩ := jm_ret_ok hf
      exact jw_ri C hJ hS (Nat.le_refl _) (Nat.le_refl _) dX8_delete_20
  · replace hf := jm_ift hf hq2
    refine lv_iconst (v := (-1)) C.1 C.2.1 dX8_delete_7 (by decide) ?_
    obtain ⟨rfl, rfl⟩ := jm_ret_ok hf
    exact jw_ri C hJ hS (Nat.le_refl _) (Nat.le_refl _) dX8_delete_8
set_option maxHeartbeats 4000000 in
set_option maxRecDepth 100000 in
theorem cX8_delete_C (l : Launch) (G : jm_G) (h0 : Nat) (x1 : Int32) {S Sf : jm_S} {rv : Int32} (hf : fX8_delete h0 x1 S = some (rv, Sf)) : Met l yX8_delete wsX8_delete ({ frames := 4, cells := 0, slots := 0, locals := 97 } : Room) (jm_Pc G S [.ref h0, .int x1]) (jm_Q G (some (.int rv)) Sf) 0 0 (jm_A G) := by
  refine Met.ofW (cc := cX8_delete) (maxL := 3) (ret := (some .int)) (by decide) rfl ?_
  intro p e s m args below meth c s₁ B hml hv
  obtain ⟨rfl, hJ, hX⟩ := hv
  have C : jm_C G cX8_delete 3 RX8 wsX8_delete ((some .int)) p s m _ meth c := ⟨B.exec, B.bytes, hml, findClass_of_methodNamed B.named, atoms_spec (ws := wsX8_delete) B.pre, B.returns, B.notSynchronized, hX⟩
  obtain ⟨ls, he, hl⟩ := jm_entry m [.inr (some h0), .inl x1] (n := 3) (Nat.le_of_ble_eq_true rfl)
  have he : entryFrame m ([.ref h0, .int x1] : List Value).toArray 3 = F0 m 0 ls [] := he
  rw [he]
  exact kX8_delete C h0 x1 hf hJ va_S.rf (hl.sub [0, 1] rfl)
/-! CoordinationServiceModel.openSession -/
def fX8_openSession (h0 : Nat) : jm_P Int32 := jm_rd (jm_gI (some h0) 9 22) fun v1 => (if v1 = 6 then jm_ret (-7) else jm_rd (jm_gI (some h0) 9 22) fun v3 => jm_wr (jm_p (some h0) 9 22 (.inl (v3 + 1))) <| jm_rd (jm_gI (some h0) 9 22) fun v5 => jm_ret (v5 - 1))
theorem inX8_openSession_X8 : ∀ w ∈ wsX80, w ∈ wsX8_openSession := fun _ h => List.mem_cons_of_mem _ (List.mem_append_right _ h)
theorem moX8_openSession (h0 : Nat) : jm_Mo (fX8_openSession h0) := by
  unfold fX8_openSession
  exact jm_Mo_rd (fun _ => jm_Mo_if (jm_Mo_ret _) (jm_Mo_rd (fun _ => jm_Mo_wr jm_p_st (jm_Mo_rd (fun _ => jm_Mo_ret _)))))
set_option maxHeartbeats 4000000 in
set_option maxRecDepth 100000 in
theorem kX8_openSession {rv : Int32} {Sf : jm_S} (C : jm_C G cX8_openSession 1 RX8 wsX8_openSession ((some .int)) p s m args meth c) : ∀ (h0 : Nat) {S : jm_S} {H : Heap} {locs : List Loc} {ls : Array Slot}, fX8_openSession h0 S = some (rv, Sf) → jm_J G S H → va_S (jm_A G) s.heap H locs → jm_L ls 1 [(0, .inr (some h0))] → W p l e ({ frames := 0, cells := 0, slots := 0, locals := 0 } : Room) s m args below meth c H locs 0 0 (MQ below (jm_Q G (some (.int rv)) Sf) args s 0 0 (jm_A G)) (F0 m 0 ls []) := by
  intro h0 S H locs ls hf hJ hS hl
  unfold fX8_openSession at hf
  refine jw_aload_n C dX8_openSession_0 rfl (hl.at 0 rfl) ?_
  obtain ⟨v1, h1, hf⟩ := jm_rd_ok hf
  refine jw_gI (Cn := RX8) (T := TX8) (N := 29) C hJ h1 rfl inX8_openSession_X8 (by decide) (jm_w C 1 rfl) (fun _ h => h) dX8_openSession_1 ?_
  refine lv_bipush (v := 6) C.1 C.2.1 dX8_openSession_4 (by decide) ?_
  refine lv_icmp_ne (tgt := 12) C.1 C.2.1 dX8_openSession_6 (by decide) (fun hq2 => ?_) (fun hq2 => ?_)
  · replace hf := jm_iff hf hq2
    refine jw_aload_n C dX8_openSession_12 rfl (hl.at 0 rfl) ?_
    refine lv_dup C.1 C.2.1 dX8_openSession_13 (jm_catr _) ?_
    obtain ⟨v3, h3, hf⟩ := jm_rd_ok hf
    refine jw_gI (Cn := RX8) (T := TX8) (N := 29) C hJ h3 rfl inX8_openSession_X8 (by decide) (jm_w C 1 rfl) (fun _ h => h) dX8_openSession_14 ?_
    refine lv_iconst (v := 1) C.1 C.2.1 dX8_openSession_17 (by decide) ?_
    refine lv_iadd C.1 C.2.1 dX8_openSession_18 ?_
    obtain ⟨S4, h4, hf⟩ := jm_wr_ok hf
    refine jw_p (x := .inl (v3 + 1)) (ty := .int) (Cn := RX8) (T := TX8) (N := 29) C hJ hS h4 rfl inX8_openSession_X8 tyX8 tyX8_ok nmX8 (by decide) (jm_w C 1 rfl) (fun _ h => h) rfl (by decide +kernel) rfl rfl dX8_openSession_19 (fun H locs hJ hS => ?_)
    refine jw_aload_n C dX8_openSession_22 rfl (hl.at 0 rfl) ?_
    obtain ⟨v5, h5, hf⟩ := jm_rd_ok hf
    refine jw_gI (Cn := RX8) (T := TX8) (N := 29) C hJ h5 rfl inX8_openSession_X8 (by decide) (jm_w C 1 rfl) (fun _ h => h) dX8_openSession_23 ?_
    refine lv_iconst (v := 1) C.1 C.2.1 dX8_openSession_26 (by decide) ?_
    refine lv_isub C.1 C.2.1 dX8_openSession_27 ?_
    obtain ⟨rfl, rfl⟩ := jm_ret_ok hf
    exact jw_ri C hJ hS (Nat.le_refl _) (Nat.le_refl _) dX8_openSession_28
  · replace hf := jm_ift hf hq2
    refine lv_bipush (v := (-7)) C.1 C.2.1 dX8_openSession_9 (by decide) ?_
    obtain ⟨rfl, rfl⟩ := jm_ret_ok hf
    exact jw_ri C hJ hS (Nat.le_refl _) (Nat.le_refl _) dX8_openSession_11
set_option maxHeartbeats 4000000 in
set_option maxRecDepth 100000 in
theorem cX8_openSession_C (l : Launch) (G : jm_G) (h0 : Nat) {S Sf : jm_S} {rv : Int32} (hf : fX8_openSession h0 S = some (rv, Sf)) : Met l yX8_openSession wsX8_openSession ({ frames := 0, cells := 0, slots := 0, locals := 0 } : Room) (jm_Pc G S [.ref h0]) (jm_Q G (some (.int rv)) Sf) 0 0 (jm_A G) := by
  refine Met.ofW (cc := cX8_openSession) (maxL := 1) (ret := (some .int)) (by decide) rfl ?_
  intro p e s m args below meth c s₁ B hml hv
  obtain ⟨rfl, hJ, hX⟩ := hv
  have C : jm_C G cX8_openSession 1 RX8 wsX8_openSession ((some .int)) p s m _ meth c := ⟨B.exec, B.bytes, hml, findClass_of_methodNamed B.named, atoms_spec (ws := wsX8_openSession) B.pre, B.returns, B.notSynchronized, hX⟩
  obtain ⟨ls, he, hl⟩ := jm_entry m [.inr (some h0)] (n := 1) (Nat.le_of_ble_eq_true rfl)
  have he : entryFrame m ([.ref h0] : List Value).toArray 1 = F0 m 0 ls [] := he
  rw [he]
  exact kX8_openSession C h0 hf hJ va_S.rf (hl.sub [0] rfl)
/-! CoordinationServiceModel.closeSession -/
def fX8_closeSession (h0 : Nat) (x1 : Int32) : jm_P Int32 := jm_rd (jm_o (some h0) 9) fun a1 => jm_bd (fX8_isSession a1 x1) fun v1 => (if v1 = 0 then jm_ret (-1) else jm_rd (jm_gI (some h0) 9 5) fun v3 => (if v3 = (-8) then jm_ret (-2) else jm_rd (jm_o (some h0) 9) fun a5 => jm_bd (fX8_isClosed a5 x1) fun v5 => (if v5 = 0 then jm_rd (jm_o (some h0) 9) fun a7 => jm_bd (fX8_proposes a7 3 0 0 x1) fun v7 => jm_ret v7 else jm_ret (-2))))
theorem inX8_closeSession_X8 : ∀ w ∈ wsX80, w ∈ wsX8_closeSession := fun _ h => List.mem_cons_of_mem _ (List.mem_append_right _ h)
theorem moX8_closeSession (h0 : Nat) (x1 : Int32) : jm_Mo (fX8_closeSession h0 x1) := by
  unfold fX8_closeSession
  exact jm_Mo_rd (fun _ => jm_Mo_bd (moX8_isSession _ _) (fun _ => jm_Mo_if (jm_Mo_ret _) (jm_Mo_rd (fun _ => jm_Mo_if (jm_Mo_ret _) (jm_Mo_rd (fun _ => jm_Mo_bd (moX8_isClosed _ _) (fun _ => jm_Mo_if (jm_Mo_rd (fun _ => jm_Mo_bd (moX8_proposes _ _ _ _ _) (fun _ => jm_Mo_ret _))) (jm_Mo_ret _))))))))
set_option maxHeartbeats 4000000 in
set_option maxRecDepth 100000 in
theorem kX8_closeSession {rv : Int32} {Sf : jm_S} (C : jm_C G cX8_closeSession 2 RX8 wsX8_closeSession ((some .int)) p s m args meth c) : ∀ (h0 : Nat) (x1 : Int32) {S : jm_S} {H : Heap} {locs : List Loc} {ls : Array Slot}, fX8_closeSession h0 x1 S = some (rv, Sf) → jm_J G S H → va_S (jm_A G) s.heap H locs → jm_L ls 2 [(0, .inr (some h0)), (1, .inl x1)] → W p l e ({ frames := 2, cells := 0, slots := 0, locals := 46 } : Room) s m args below meth c H locs 0 0 (MQ below (jm_Q G (some (.int rv)) Sf) args s 0 0 (jm_A G)) (F0 m 0 ls []) := by
  intro h0 x1 S H locs ls hf hJ hS hl
  unfold fX8_closeSession at hf
  refine jw_aload_n C dX8_closeSession_0 rfl (hl.at 0 rfl) ?_
  refine lv_iload_n C.1 C.2.1 dX8_closeSession_1 rfl (hl.at 1 rfl) ?_
  obtain ⟨a1, o1, hf⟩ := jm_rd_ok hf
  obtain ⟨v1, S1, h1, hf⟩ := jm_bd_ok hf
  refine jw_cV (q := (RX8, TX8, 29)) C hJ hS o1 rfl (cX8_isSession_C l G a1 x1 h1) (cwV 1 C.2.2.2.2.1 gX8_closeSession_X8_isSession rfl rfl rfl (by decide +kernel) ⟨Nat.le_of_ble_eq_true rfl, Nat.le_of_ble_eq_true rfl⟩) rfl hl.1 rfl (Nat.le_of_ble_eq_true rfl) dX8_closeSession_2 ⟨Nat.le_refl _, Nat.le_refl _⟩ (fun H locs hJ hS => ?_)
  refine lv_if_ne (tgt := 10) C.1 C.2.1 dX8_closeSession_5 (by decide) (fun hq2 => ?_) (fun hq2 => ?_)
  · replace hf := jm_iff hf hq2
    refine jw_aload_n C dX8_closeSession_10 rfl (hl.at 0 rfl) ?_
    obtain ⟨v3, h3, hf⟩ := jm_rd_ok hf
    refine jw_gI (Cn := RX8) (T := TX8) (N := 29) C hJ h3 rfl inX8_closeSession_X8 (by decide) (jm_w C 1 rfl) (fun _ h => h) dX8_closeSession_11 ?_
    refine lv_bipush (v := (-8)) C.1 C.2.1 dX8_closeSession_14 (by decide) ?_
    refine lv_icmp_eq (tgt := 27) C.1 C.2.1 dX8_closeSession_16 (by decide) (fun hq4 => ?_) (fun hq4 => ?_)
    · replace hf := jm_ift hf hq4
      refine lv_bipush (v := (-2)) C.1 C.2.1 dX8_closeSession_27 (by decide) ?_
      obtain ⟨rfl, rfl⟩ := jm_ret_ok hf
      exact jw_ri C hJ hS (Nat.le_refl _) (Nat.le_refl _) dX8_closeSession_29
    · replace hf := jm_iff hf hq4
      refine jw_aload_n C dX8_closeSession_19 rfl (hl.at 0 rfl) ?_
      refine lv_iload_n C.1 C.2.1 dX8_closeSession_20 rfl (hl.at 1 rfl) ?_
      obtain ⟨a5, o5, hf⟩ := jm_rd_ok hf
      obtain ⟨v5, S5, h5, hf⟩ := jm_bd_ok hf
      refine jw_cV (q := (RX8, TX8, 29)) C hJ hS o5 rfl (cX8_isClosed_C l G a5 x1 h5) (cwV 1 C.2.2.2.2.1 gX8_closeSession_X8_isClosed rfl rfl rfl (by decide +kernel) ⟨Nat.le_of_ble_eq_true rfl, Nat.le_of_ble_eq_true rfl⟩) rfl hl.1 rfl (Nat.le_of_ble_eq_true rfl) dX8_closeSession_21 ⟨Nat.le_refl _, Nat.le_refl _⟩ (fun H locs hJ hS => ?_)
      refine lv_if_eq (tgt := 30) C.1 C.2.1 dX8_closeSession_24 (by decide) (fun hq6 => ?_) (fun hq6 => ?_)
      · replace hf := jm_ift hf hq6
        refine jw_aload_n C dX8_closeSession_30 rfl (hl.at 0 rfl) ?_
        refine lv_iconst (v := 3) C.1 C.2.1 dX8_closeSession_31 (by decide) ?_
        refine lv_iconst (v := 0) C.1 C.2.1 dX8_closeSession_32 (by decide) ?_
        refine lv_iconst (v := 0) C.1 C.2.1 dX8_closeSession_33 (by decide) ?_
        refine lv_iload_n C.1 C.2.1 dX8_closeSession_34 rfl (hl.at 1 rfl) ?_
        obtain ⟨a7, o7, hf⟩ := jm_rd_ok hf
        obtain ⟨v7, S7, h7, hf⟩ := jm_bd_ok hf
        refine jw_cV (q := (RX8, TX8, 29)) C hJ hS o7 rfl (cX8_proposes_C l G a7 3 0 0 x1 h7) (cwV 4 C.2.2.2.2.1 gX8_closeSession_X8_proposes rfl rfl rfl (by decide +kernel) ⟨Nat.le_of_ble_eq_true rfl, Nat.le_of_ble_eq_true rfl⟩) rfl hl.1 rfl (Nat.le_of_ble_eq_true rfl) dX8_closeSession_35 ⟨Nat.le_refl _, Nat.le_refl _⟩ (fun H locs hJ hS => ?_)
        obtain ⟨rfl, rfl⟩ := jm_ret_ok hf
        exact jw_ri C hJ hS (Nat.le_refl _) (Nat.le_refl _) dX8_closeSession_38
      · replace hf := jm_iff hf hq6
        refine lv_bipush (v := (-2)) C.1 C.2.1 dX8_closeSession_27 (by decide) ?_
        obtain ⟨rfl, rfl⟩ := jm_ret_ok hf
        exact jw_ri C hJ hS (Nat.le_refl _) (Nat.le_refl _) dX8_closeSession_29
  · replace hf := jm_ift hf hq2
    refine lv_iconst (v := (-1)) C.1 C.2.1 dX8_closeSession_8 (by decide) ?_
    obtain ⟨rfl, rfl⟩ := jm_ret_ok hf
    exact jw_ri C hJ hS (Nat.le_refl _) (Nat.le_refl _) dX8_closeSession_9
set_option maxHeartbeats 4000000 in
set_option maxRecDepth 100000 in
theorem cX8_closeSession_C (l : Launch) (G : jm_G) (h0 : Nat) (x1 : Int32) {S Sf : jm_S} {rv : Int32} (hf : fX8_closeSession h0 x1 S = some (rv, Sf)) : Met l yX8_closeSession wsX8_closeSession ({ frames := 2, cells := 0, slots := 0, locals := 46 } : Room) (jm_Pc G S [.ref h0, .int x1]) (jm_Q G (some (.int rv)) Sf) 0 0 (jm_A G) := by
  refine Met.ofW (cc := cX8_closeSession) (maxL := 2) (ret := (some .int)) (by decide) rfl ?_
  intro p e s m args below meth c s₁ B hml hv
  obtain ⟨rfl, hJ, hX⟩ := hv
  have C : jm_C G cX8_closeSession 2 RX8 wsX8_closeSession ((some .int)) p s m _ meth c := ⟨B.exec, B.bytes, hml, findClass_of_methodNamed B.named, atoms_spec (ws := wsX8_closeSession) B.pre, B.returns, B.notSynchronized, hX⟩
  obtain ⟨ls, he, hl⟩ := jm_entry m [.inr (some h0), .inl x1] (n := 2) (Nat.le_of_ble_eq_true rfl)
  have he : entryFrame m ([.ref h0, .int x1] : List Value).toArray 2 = F0 m 0 ls [] := he
  rw [he]
  exact kX8_closeSession C h0 x1 hf hJ va_S.rf (hl.sub [0, 1] rfl)
/-! CoordinationServiceModel.watch -/
def fX8_watch (h0 : Nat) (x1 : Int32) (x2 : Int32) : jm_P Int32 := jm_rd (jm_o (some h0) 9) fun a1 => jm_bd (fX8_isServer a1 x1) fun v1 => (if v1 = 0 then jm_ret (-1) else jm_rd (jm_o (some h0) 9) fun a3 => jm_bd (fX8_isSession a3 x2) fun v3 => (if v3 = 0 then jm_ret (-1) else jm_rd (jm_gR (some h0) 9 1) fun v5 => jm_rd (jm_gi v5 1 x1) fun v6 => (if v6 = 0 then jm_ret (-2) else jm_rd (jm_gI (some h0) 9 20) fun v8 => (if v8 = 0 then jm_ret (-2) else jm_rd (jm_gI (some h0) 9 25) fun v10 => (if v10 = 10 then jm_ret (-7) else jm_rd (jm_gR (some h0) 9 26) fun v12 => jm_rd (jm_gI (some h0) 9 25) fun v13 => jm_wr (jm_si v12 0 v13 x1) <| jm_rd (jm_gR (some h0) 9 27) fun v15 => jm_rd (jm_gI (some h0) 9 25) fun v16 => jm_wr (jm_si v15 0 v16 x2) <| jm_rd (jm_gR (some h0) 9 28) fun v18 => jm_rd (jm_gI (some h0) 9 25) fun v19 => jm_rd (jm_o (some h0) 9) fun a20 => jm_bd (fX8_path a20) fun v20 => jm_wr (jm_si v18 0 v19 v20) <| jm_rd (jm_gI (some h0) 9 25) fun v22 => jm_wr (jm_p (some h0) 9 25 (.inl (v22 + 1))) <| jm_rd (jm_gI (some h0) 9 25) fun v24 => jm_ret v24)))))
theorem inX8_watch_X8 : ∀ w ∈ wsX80, w ∈ wsX8_watch := fun _ h => List.mem_cons_of_mem _ (List.mem_append_right _ h)
theorem moX8_watch (h0 : Nat) (x1 : Int32) (x2 : Int32) : jm_Mo (fX8_watch h0 x1 x2) := by
  unfold fX8_watch
  exact jm_Mo_rd (fun _ => jm_Mo_bd (moX8_isServer _ _) (fun _ => jm_Mo_if (jm_Mo_ret _) (jm_Mo_rd (fun _ => jm_Mo_bd (moX8_isSession _ _) (fun _ => jm_Mo_if (jm_Mo_ret _) (jm_Mo_rd (fun _ => jm_Mo_rd (fun _ => jm_Mo_if (jm_Mo_ret _) (jm_Mo_rd (fun _ => jm_Mo_if (jm_Mo_ret _) (jm_Mo_rd (fun _ => jm_Mo_if (jm_Mo_ret _) (jm_Mo_rd (fun _ => jm_Mo_rd (fun _ => jm_Mo_wr jm_si_st (jm_Mo_rd (fun _ => jm_Mo_rd (fun _ => jm_Mo_wr jm_si_st (jm_Mo_rd (fun _ => jm_Mo_rd (fun _ => jm_Mo_rd (fun _ => jm_Mo_bd (moX8_path _) (fun _ => jm_Mo_wr jm_si_st (jm_Mo_rd (fun _ => jm_Mo_wr jm_p_st (jm_Mo_rd (fun _ => jm_Mo_ret _)))))))))))))))))))))))))))
set_option maxHeartbeats 4000000 in
set_option maxRecDepth 100000 in
theorem kX8_watch {rv : Int32} {Sf : jm_S} (C : jm_C G cX8_watch 3 RX8 wsX8_watch ((some .int)) p s m args meth c) : ∀ (h0 : Nat) (x1 : Int32) (x2 : Int32) {S : jm_S} {H : Heap} {locs : List Loc} {ls : Array Slot}, fX8_watch h0 x1 x2 S = some (rv, Sf) → jm_J G S H → va_S (jm_A G) s.heap H locs → jm_L ls 3 [(0, .inr (some h0)), (1, .inl x1), (2, .inl x2)] → W p l e ({ frames := 2, cells := 0, slots := 0, locals := 46 } : Room) s m args below meth c H locs 0 0 (MQ below (jm_Q G (some (.int rv)) Sf) args s 0 0 (jm_A G)) (F0 m 0 ls []) := by
  intro h0 x1 x2 S H locs ls hf hJ hS hl
  unfold fX8_watch at hf
  refine jw_aload_n C dX8_watch_0 rfl (hl.at 0 rfl) ?_
  refine lv_iload_n C.1 C.2.1 dX8_watch_1 rfl (hl.at 1 rfl) ?_
  obtain ⟨a1, o1, hf⟩ := jm_rd_ok hf
  obtain ⟨v1, S1, h1, hf⟩ := jm_bd_ok hf
  refine jw_cV (q := (RX8, TX8, 29)) C hJ hS o1 rfl (cX8_isServer_C l G a1 x1 h1) (cwV 1 C.2.2.2.2.1 gX8_watch_X8_isServer rfl rfl rfl (by decide +kernel) ⟨Nat.le_of_ble_eq_true rfl, Nat.le_of_ble_eq_true rfl⟩) rfl hl.1 rfl (Nat.le_of_ble_eq_true rfl) dX8_watch_2 ⟨Nat.le_refl _, Nat.le_refl _⟩ (fun H locs hJ hS => ?_)
  refine lv_if_eq (tgt := 16) C.1 C.2.1 dX8_watch_5 (by decide) (fun hq2 => ?_) (fun hq2 => ?_)
  · replace hf := jm_ift hf hq2
    refine lv_iconst (v := (-1)) C.1 C.2.1 dX8_watch_16 (by decide) ?_
    obtain ⟨rfl, rfl⟩ := jm_ret_ok hf
    exact jw_ri C hJ hS (Nat.le_refl _) (Nat.le_refl _) dX8_watch_17
  · replace hf := jm_iff hf hq2
    refine jw_aload_n C dX8_watch_8 rfl (hl.at 0 rfl) ?_
    refine lv_iload_n C.1 C.2.1 dX8_watch_9 rfl (hl.at 2 rfl) ?_
    obtain ⟨a3, o3, hf⟩ := jm_rd_ok hf
    obtain ⟨v3, S3, h3, hf⟩ := jm_bd_ok hf
    refine jw_cV (q := (RX8, TX8, 29)) C hJ hS o3 rfl (cX8_isSession_C l G a3 x2 h3) (cwV 1 C.2.2.2.2.1 gX8_watch_X8_isSession rfl rfl rfl (by decide +kernel) ⟨Nat.le_of_ble_eq_true rfl, Nat.le_of_ble_eq_true rfl⟩) rfl hl.1 rfl (Nat.le_of_ble_eq_true rfl) dX8_watch_10 ⟨Nat.le_refl _, Nat.le_refl _⟩ (fun H locs hJ hS => ?_)
    refine lv_if_ne (tgt := 18) C.1 C.2.1 dX8_watch_13 (by decide) (fun hq4 => ?_) (fun hq4 => ?_)
    · replace hf := jm_iff hf hq4
      refine jw_aload_n C dX8_watch_18 rfl (hl.at 0 rfl) ?_
      obtain ⟨v5, h5, hf⟩ := jm_rd_ok hf
      refine jw_gR (Cn := RX8) (T := TX8) (N := 29) C hJ h5 rfl inX8_watch_X8 (by decide) (jm_w C 1 rfl) (fun _ h => h) dX8_watch_19 ?_
      refine lv_iload_n C.1 C.2.1 dX8_watch_22 rfl (hl.at 1 rfl) ?_
      obtain ⟨v6, h6, hf⟩ := jm_rd_ok hf
      refine jw_zaload C hJ h6 dX8_watch_23 ?_
      refine lv_if_eq (tgt := 34) C.1 C.2.1 dX8_watch_24 (by decide) (fun hq7 => ?_) (fun hq7 => ?_)
      · replace hf := jm_ift hf hq7
        refine lv_bipush (v := (-2)) C.1 C.2.1 dX8_watch_34 (by decide) ?_
        obtain ⟨rfl, rfl⟩ := jm_ret_ok hf
        exact jw_ri C hJ hS (Nat.le_refl _) (Nat.le_refl _) dX8_watch_36
      · replace hf := jm_iff hf hq7
        refine jw_aload_n C dX8_watch_27 rfl (hl.at 0 rfl) ?_
        obtain ⟨v8, h8, hf⟩ := jm_rd_ok hf
        refine jw_gI (Cn := RX8) (T := TX8) (N := 29) C hJ h8 rfl inX8_watch_X8 (by decide) (jm_w C 2 rfl) (fun _ h => h) dX8_watch_28 ?_
        refine lv_if_ne (tgt := 37) C.1 C.2.1 dX8_watch_31 (by decide) (fun hq9 => ?_) (fun hq9 => ?_)
        · replace hf := jm_iff hf hq9
          refine jw_aload_n C dX8_watch_37 rfl (hl.at 0 rfl) ?_
          obtain ⟨v10, h10, hf⟩ := jm_rd_ok hf
          refine jw_gI (Cn := RX8) (T := TX8) (N := 29) C hJ h10 rfl inX8_watch_X8 (by decide) (jm_w C 3 rfl) (fun _ h => h) dX8_watch_38 ?_
          refine lv_bipush (v := 10) C.1 C.2.1 dX8_watch_41 (by decide) ?_
          refine lv_icmp_ne (tgt := 49) C.1 C.2.1 dX8_watch_43 (by decide) (fun hq11 => ?_) (fun hq11 => ?_)
          · replace hf := jm_iff hf hq11
            refine jw_aload_n C dX8_watch_49 rfl (hl.at 0 rfl) ?_
            obtain ⟨v12, h12, hf⟩ := jm_rd_ok hf
            refine jw_gR (Cn := RX8) (T := TX8) (N := 29) C hJ h12 rfl inX8_watch_X8 (by decide) (jm_w C 4 rfl) (fun _ h => h) dX8_watch_50 ?_
            refine jw_aload_n C dX8_watch_53 rfl (hl.at 0 rfl) ?_
            obtain ⟨v13, h13, hf⟩ := jm_rd_ok hf
            refine jw_gI (Cn := RX8) (T := TX8) (N := 29) C hJ h13 rfl inX8_watch_X8 (by decide) (jm_w C 3 rfl) (fun _ h => h) dX8_watch_54 ?_
            refine lv_iload_n C.1 C.2.1 dX8_watch_57 rfl (hl.at 1 rfl) ?_
            obtain ⟨S14, h14, hf⟩ := jm_wr_ok hf
            refine jw_iastore C hJ hS h14 dX8_watch_58 (fun H locs hJ hS => ?_)
            refine jw_aload_n C dX8_watch_59 rfl (hl.at 0 rfl) ?_
            obtain ⟨v15, h15, hf⟩ := jm_rd_ok hf
            refine jw_gR (Cn := RX8) (T := TX8) (N := 29) C hJ h15 rfl inX8_watch_X8 (by decide) (jm_w C 5 rfl) (fun _ h => h) dX8_watch_60 ?_
            refine jw_aload_n C dX8_watch_63 rfl (hl.at 0 rfl) ?_
            obtain ⟨v16, h16, hf⟩ := jm_rd_ok hf
            refine jw_gI (Cn := RX8) (T := TX8) (N := 29) C hJ h16 rfl inX8_watch_X8 (by decide) (jm_w C 3 rfl) (fun _ h => h) dX8_watch_64 ?_
            refine lv_iload_n C.1 C.2.1 dX8_watch_67 rfl (hl.at 2 rfl) ?_
            obtain ⟨S17, h17, hf⟩ := jm_wr_ok hf
            refine jw_iastore C hJ hS h17 dX8_watch_68 (fun H locs hJ hS => ?_)
            refine jw_aload_n C dX8_watch_69 rfl (hl.at 0 rfl) ?_
            obtain ⟨v18, h18, hf⟩ := jm_rd_ok hf
            refine jw_gR (Cn := RX8) (T := TX8) (N := 29) C hJ h18 rfl inX8_watch_X8 (by decide) (jm_w C 6 rfl) (fun _ h => h) dX8_watch_70 ?_
            refine jw_aload_n C dX8_watch_73 rfl (hl.at 0 rfl) ?_
            obtain ⟨v19, h19, hf⟩ := jm_rd_ok hf
            refine jw_gI (Cn := RX8) (T := TX8) (N := 29) C hJ h19 rfl inX8_watch_X8 (by decide) (jm_w C 3 rfl) (fun _ h => h) dX8_watch_74 ?_
            refine jw_aload_n C dX8_watch_77 rfl (hl.at 0 rfl) ?_
            obtain ⟨a20, o20, hf⟩ := jm_rd_ok hf
            obtain ⟨v20, S20, h20, hf⟩ := jm_bd_ok hf
            refine jw_cV (q := (RX8, TX8, 29)) C hJ hS o20 rfl (cX8_path_C l G a20 h20) (cwV 0 C.2.2.2.2.1 gX8_watch_X8_path rfl rfl rfl (by decide +kernel) ⟨Nat.le_of_ble_eq_true rfl, Nat.le_of_ble_eq_true rfl⟩) rfl hl.1 rfl (Nat.le_of_ble_eq_true rfl) dX8_watch_78 ⟨Nat.le_refl _, Nat.le_refl _⟩ (fun H locs hJ hS => ?_)
            obtain ⟨S21, h21, hf⟩ := jm_wr_ok hf
            refine jw_iastore C hJ hS h21 dX8_watch_81 (fun H locs hJ hS => ?_)
            refine jw_aload_n C dX8_watch_82 rfl (hl.at 0 rfl) ?_
            refine lv_dup C.1 C.2.1 dX8_watch_83 (jm_catr _) ?_
            obtain ⟨v22, h22, hf⟩ := jm_rd_ok hf
            refine jw_gI (Cn := RX8) (T := TX8) (N := 29) C hJ h22 rfl inX8_watch_X8 (by decide) (jm_w C 3 rfl) (fun _ h => h) dX8_watch_84 ?_
            refine lv_iconst (v := 1) C.1 C.2.1 dX8_watch_87 (by decide) ?_
            refine lv_iadd C.1 C.2.1 dX8_watch_88 ?_
            obtain ⟨S23, h23, hf⟩ := jm_wr_ok hf
            refine jw_p (x := .inl (v22 + 1)) (ty := .int) (Cn := RX8) (T := TX8) (N := 29) C hJ hS h23 rfl inX8_watch_X8 tyX8 tyX8_ok nmX8 (by decide) (jm_w C 3 rfl) (fun _ h => h) rfl (by decide +kernel) rfl rfl dX8_watch_89 (fun H locs hJ hS => ?_)
            refine jw_aload_n C dX8_watch_92 rfl (hl.at 0 rfl) ?_
            obtain ⟨v24, h24, hf⟩ := jm_rd_ok hf
            refine jw_gI (Cn := RX8) (T := TX8) (N := 29) C hJ h24 rfl inX8_watch_X8 (by decide) (jm_w C 3 rfl) (fun _ h => h) dX8_watch_93 ?_
            obtain ⟨rfl, rfl⟩ := jm_ret_ok hf
            exact jw_ri C hJ hS (Nat.le_refl _) (Nat.le_refl _) dX8_watch_96
          · replace hf := jm_ift hf hq11
            refine lv_bipush (v := (-7)) C.1 C.2.1 dX8_watch_46 (by decide) ?_
            obtain ⟨rfl, rfl⟩ := jm_ret_ok hf
            exact jw_ri C hJ hS (Nat.le_refl _) (Nat.le_refl _) dX8_watch_48
        · replace hf := jm_ift hf hq9
          refine lv_bipush (v := (-2)) C.1 C.2.1 dX8_watch_34 (by decide) ?_
          obtain ⟨rfl, rfl⟩ := jm_ret_ok hf
          exact jw_ri C hJ hS (Nat.le_refl _) (Nat.le_refl _) dX8_watch_36
    · replace hf := jm_ift hf hq4
      refine lv_iconst (v := (-1)) C.1 C.2.1 dX8_watch_16 (by decide) ?_
      obtain ⟨rfl, rfl⟩ := jm_ret_ok hf
      exact jw_ri C hJ hS (Nat.le_refl _) (Nat.le_refl _) dX8_watch_17
set_option maxHeartbeats 4000000 in
set_option maxRecDepth 100000 in
theorem cX8_watch_C (l : Launch) (G : jm_G) (h0 : Nat) (x1 : Int32) (x2 : Int32) {S Sf : jm_S} {rv : Int32} (hf : fX8_watch h0 x1 x2 S = some (rv, Sf)) : Met l yX8_watch wsX8_watch ({ frames := 2, cells := 0, slots := 0, locals := 46 } : Room) (jm_Pc G S [.ref h0, .int x1, .int x2]) (jm_Q G (some (.int rv)) Sf) 0 0 (jm_A G) := by
  refine Met.ofW (cc := cX8_watch) (maxL := 3) (ret := (some .int)) (by decide) rfl ?_
  intro p e s m args below meth c s₁ B hml hv
  obtain ⟨rfl, hJ, hX⟩ := hv
  have C : jm_C G cX8_watch 3 RX8 wsX8_watch ((some .int)) p s m _ meth c := ⟨B.exec, B.bytes, hml, findClass_of_methodNamed B.named, atoms_spec (ws := wsX8_watch) B.pre, B.returns, B.notSynchronized, hX⟩
  obtain ⟨ls, he, hl⟩ := jm_entry m [.inr (some h0), .inl x1, .inl x2] (n := 3) (Nat.le_of_ble_eq_true rfl)
  have he : entryFrame m ([.ref h0, .int x1, .int x2] : List Value).toArray 3 = F0 m 0 ls [] := he
  rw [he]
  exact kX8_watch C h0 x1 x2 hf hJ va_S.rf (hl.sub [0, 1, 2] rfl)
/-! CoordinationServiceModel.eventCount -/
def fX8_eventCount (h0 : Nat) (x1 : Int32) : jm_P Int32 := jm_rd (jm_o (some h0) 9) fun a1 => jm_bd (fX8_isSession a1 x1) fun v1 => (if v1 = 0 then jm_ret (-1) else jm_rd (jm_gR (some h0) 9 23) fun v3 => jm_rd (jm_gi v3 0 x1) fun v4 => jm_ret v4)
theorem inX8_eventCount_X8 : ∀ w ∈ wsX80, w ∈ wsX8_eventCount := fun _ h => List.mem_cons_of_mem _ (List.mem_append_right _ h)
theorem moX8_eventCount (h0 : Nat) (x1 : Int32) : jm_Mo (fX8_eventCount h0 x1) := by
  unfold fX8_eventCount
  exact jm_Mo_rd (fun _ => jm_Mo_bd (moX8_isSession _ _) (fun _ => jm_Mo_if (jm_Mo_ret _) (jm_Mo_rd (fun _ => jm_Mo_rd (fun _ => jm_Mo_ret _)))))
set_option maxHeartbeats 4000000 in
set_option maxRecDepth 100000 in
theorem kX8_eventCount {rv : Int32} {Sf : jm_S} (C : jm_C G cX8_eventCount 2 RX8 wsX8_eventCount ((some .int)) p s m args meth c) : ∀ (h0 : Nat) (x1 : Int32) {S : jm_S} {H : Heap} {locs : List Loc} {ls : Array Slot}, fX8_eventCount h0 x1 S = some (rv, Sf) → jm_J G S H → va_S (jm_A G) s.heap H locs → jm_L ls 2 [(0, .inr (some h0)), (1, .inl x1)] → W p l e ({ frames := 2, cells := 0, slots := 0, locals := 46 } : Room) s m args below meth c H locs 0 0 (MQ below (jm_Q G (some (.int rv)) Sf) args s 0 0 (jm_A G)) (F0 m 0 ls []) := by
  intro h0 x1 S H locs ls hf hJ hS hl
  unfold fX8_eventCount at hf
  refine jw_aload_n C dX8_eventCount_0 rfl (hl.at 0 rfl) ?_
  refine lv_iload_n C.1 C.2.1 dX8_eventCount_1 rfl (hl.at 1 rfl) ?_
  obtain ⟨a1, o1, hf⟩ := jm_rd_ok hf
  obtain ⟨v1, S1, h1, hf⟩ := jm_bd_ok hf
  refine jw_cV (q := (RX8, TX8, 29)) C hJ hS o1 rfl (cX8_isSession_C l G a1 x1 h1) (cwV 1 C.2.2.2.2.1 gX8_eventCount_X8_isSession rfl rfl rfl (by decide +kernel) ⟨Nat.le_of_ble_eq_true rfl, Nat.le_of_ble_eq_true rfl⟩) rfl hl.1 rfl (Nat.le_of_ble_eq_true rfl) dX8_eventCount_2 ⟨Nat.le_refl _, Nat.le_refl _⟩ (fun H locs hJ hS => ?_)
  refine lv_if_eq (tgt := 17) C.1 C.2.1 dX8_eventCount_5 (by decide) (fun hq2 => ?_) (fun hq2 => ?_)
  · replace hf := jm_ift hf hq2
    refine lv_iconst (v := (-1)) C.1 C.2.1 dX8_eventCount_17 (by decide) ?_
    obtain ⟨rfl, rfl⟩ := jm_ret_ok hf
    exact jw_ri C hJ hS (Nat.le_refl _) (Nat.le_refl _) dX8_eventCount_18
  · replace hf := jm_iff hf hq2
    refine jw_aload_n C dX8_eventCount_8 rfl (hl.at 0 rfl) ?_
    obtain ⟨v3, h3, hf⟩ := jm_rd_ok hf
    refine jw_gR (Cn := RX8) (T := TX8) (N := 29) C hJ h3 rfl inX8_eventCount_X8 (by decide) (jm_w C 1 rfl) (fun _ h => h) dX8_eventCount_9 ?_
    refine lv_iload_n C.1 C.2.1 dX8_eventCount_12 rfl (hl.at 1 rfl) ?_
    obtain ⟨v4, h4, hf⟩ := jm_rd_ok hf
    refine jw_iaload C hJ h4 dX8_eventCount_13 ?_
    refine lv_goto (tgt := 18) C.1 C.2.1 dX8_eventCount_14 (by decide) ?_
    obtain ⟨rfl, rfl⟩ := jm_ret_ok hf
    exact jw_ri C hJ hS (Nat.le_refl _) (Nat.le_refl _) dX8_eventCount_18
set_option maxHeartbeats 4000000 in
set_option maxRecDepth 100000 in
theorem cX8_eventCount_C (l : Launch) (G : jm_G) (h0 : Nat) (x1 : Int32) {S Sf : jm_S} {rv : Int32} (hf : fX8_eventCount h0 x1 S = some (rv, Sf)) : Met l yX8_eventCount wsX8_eventCount ({ frames := 2, cells := 0, slots := 0, locals := 46 } : Room) (jm_Pc G S [.ref h0, .int x1]) (jm_Q G (some (.int rv)) Sf) 0 0 (jm_A G) := by
  refine Met.ofW (cc := cX8_eventCount) (maxL := 2) (ret := (some .int)) (by decide) rfl ?_
  intro p e s m args below meth c s₁ B hml hv
  obtain ⟨rfl, hJ, hX⟩ := hv
  have C : jm_C G cX8_eventCount 2 RX8 wsX8_eventCount ((some .int)) p s m _ meth c := ⟨B.exec, B.bytes, hml, findClass_of_methodNamed B.named, atoms_spec (ws := wsX8_eventCount) B.pre, B.returns, B.notSynchronized, hX⟩
  obtain ⟨ls, he, hl⟩ := jm_entry m [.inr (some h0), .inl x1] (n := 2) (Nat.le_of_ble_eq_true rfl)
  have he : entryFrame m ([.ref h0, .int x1] : List Value).toArray 2 = F0 m 0 ls [] := he
  rw [he]
  exact kX8_eventCount C h0 x1 hf hJ va_S.rf (hl.sub [0, 1] rfl)
/-! CoordinationServiceModel.eventAt -/
def fX8_eventAt (h0 : Nat) (x1 : Int32) (x2 : Int32) : jm_P Int32 := jm_rd (jm_o (some h0) 9) fun a1 => jm_bd (fX8_isSession a1 x1) fun v1 => (if v1 = 0 then jm_ret (-1) else (if 0 ≤ x2 then jm_rd (jm_gR (some h0) 9 23) fun v4 => jm_rd (jm_gi v4 0 x1) fun v5 => (if v5 ≤ x2 then jm_ret (-3) else jm_rd (jm_gR (some h0) 9 23) fun v7 => jm_rd (jm_gi v7 0 x1) fun v8 => (if x2 < (v8 - 8) then jm_ret (-3) else jm_rd (jm_gR (some h0) 9 24) fun v10 => jm_rd (jm_gi v10 0 ((8 * x1) + (x2 - x2 / 8 * 8))) fun v11 => jm_ret v11)) else jm_ret (-1)))
theorem inX8_eventAt_X8 : ∀ w ∈ wsX80, w ∈ wsX8_eventAt := fun _ h => List.mem_cons_of_mem _ (List.mem_append_right _ h)
theorem moX8_eventAt (h0 : Nat) (x1 : Int32) (x2 : Int32) : jm_Mo (fX8_eventAt h0 x1 x2) := by
  unfold fX8_eventAt
  exact jm_Mo_rd (fun _ => jm_Mo_bd (moX8_isSession _ _) (fun _ => jm_Mo_if (jm_Mo_ret _) (jm_Mo_if (jm_Mo_rd (fun _ => jm_Mo_rd (fun _ => jm_Mo_if (jm_Mo_ret _) (jm_Mo_rd (fun _ => jm_Mo_rd (fun _ => jm_Mo_if (jm_Mo_ret _) (jm_Mo_rd (fun _ => jm_Mo_rd (fun _ => jm_Mo_ret _))))))))) (jm_Mo_ret _))))
set_option maxHeartbeats 4000000 in
set_option maxRecDepth 100000 in
theorem kX8_eventAt {rv : Int32} {Sf : jm_S} (C : jm_C G cX8_eventAt 3 RX8 wsX8_eventAt ((some .int)) p s m args meth c) : ∀ (h0 : Nat) (x1 : Int32) (x2 : Int32) {S : jm_S} {H : Heap} {locs : List Loc} {ls : Array Slot}, fX8_eventAt h0 x1 x2 S = some (rv, Sf) → jm_J G S H → va_S (jm_A G) s.heap H locs → jm_L ls 3 [(0, .inr (some h0)), (1, .inl x1), (2, .inl x2)] → W p l e ({ frames := 2, cells := 0, slots := 0, locals := 46 } : Room) s m args below meth c H locs 0 0 (MQ below (jm_Q G (some (.int rv)) Sf) args s 0 0 (jm_A G)) (F0 m 0 ls []) := by
  intro h0 x1 x2 S H locs ls hf hJ hS hl
  unfold fX8_eventAt at hf
  refine jw_aload_n C dX8_eventAt_0 rfl (hl.at 0 rfl) ?_
  refine lv_iload_n C.1 C.2.1 dX8_eventAt_1 rfl (hl.at 1 rfl) ?_
  obtain ⟨a1, o1, hf⟩ := jm_rd_ok hf
  obtain ⟨v1, S1, h1, hf⟩ := jm_bd_ok hf
  refine jw_cV (q := (RX8, TX8, 29)) C hJ hS o1 rfl (cX8_isSession_C l G a1 x1 h1) (cwV 1 C.2.2.2.2.1 gX8_eventAt_X8_isSession rfl rfl rfl (by decide +kernel) ⟨Nat.le_of_ble_eq_true rfl, Nat.le_of_ble_eq_true rfl⟩) rfl hl.1 rfl (Nat.le_of_ble_eq_true rfl) dX8_eventAt_2 ⟨Nat.le_refl _, Nat.le_refl _⟩ (fun H locs hJ hS => ?_)
  refine lv_if_eq (tgt := 12) C.1 C.2.1 dX8_eventAt_5 (by decide) (fun hq2 => ?_) (fun hq2 => ?_)
  · replace hf := jm_ift hf hq2
    refine lv_iconst (v := (-1)) C.1 C.2.1 dX8_eventAt_12 (by decide) ?_
    obtain ⟨rfl, rfl⟩ := jm_ret_ok hf
    exact jw_ri C hJ hS (Nat.le_refl _) (Nat.le_refl _) dX8_eventAt_13
  · replace hf := jm_iff hf hq2
    refine lv_iload_n C.1 C.2.1 dX8_eventAt_8 rfl (hl.at 2 rfl) ?_
    refine lv_if_ge (tgt := 14) C.1 C.2.1 dX8_eventAt_9 (by decide) (fun hq3 => ?_) (fun hq3 => ?_)
    · replace hf := jm_ift hf hq3
      refine lv_iload_n C.1 C.2.1 dX8_eventAt_14 rfl (hl.at 2 rfl) ?_
      refine jw_aload_n C dX8_eventAt_15 rfl (hl.at 0 rfl) ?_
      obtain ⟨v4, h4, hf⟩ := jm_rd_ok hf
      refine jw_gR (Cn := RX8) (T := TX8) (N := 29) C hJ h4 rfl inX8_eventAt_X8 (by decide) (jm_w C 1 rfl) (fun _ h => h) dX8_eventAt_16 ?_
      refine lv_iload_n C.1 C.2.1 dX8_eventAt_19 rfl (hl.at 1 rfl) ?_
      obtain ⟨v5, h5, hf⟩ := jm_rd_ok hf
      refine jw_iaload C hJ h5 dX8_eventAt_20 ?_
      refine lv_icmp_ge (tgt := 54) C.1 C.2.1 dX8_eventAt_21 (by decide) (fun hq6 => ?_) (fun hq6 => ?_)
      · replace hf := jm_ift hf hq6
        refine lv_bipush (v := (-3)) C.1 C.2.1 dX8_eventAt_54 (by decide) ?_
        obtain ⟨rfl, rfl⟩ := jm_ret_ok hf
        exact jw_ri C hJ hS (Nat.le_refl _) (Nat.le_refl _) dX8_eventAt_56
      · replace hf := jm_iff hf hq6
        refine lv_iload_n C.1 C.2.1 dX8_eventAt_24 rfl (hl.at 2 rfl) ?_
        refine jw_aload_n C dX8_eventAt_25 rfl (hl.at 0 rfl) ?_
        obtain ⟨v7, h7, hf⟩ := jm_rd_ok hf
        refine jw_gR (Cn := RX8) (T := TX8) (N := 29) C hJ h7 rfl inX8_eventAt_X8 (by decide) (jm_w C 1 rfl) (fun _ h => h) dX8_eventAt_26 ?_
        refine lv_iload_n C.1 C.2.1 dX8_eventAt_29 rfl (hl.at 1 rfl) ?_
        obtain ⟨v8, h8, hf⟩ := jm_rd_ok hf
        refine jw_iaload C hJ h8 dX8_eventAt_30 ?_
        refine lv_bipush (v := 8) C.1 C.2.1 dX8_eventAt_31 (by decide) ?_
        refine lv_isub C.1 C.2.1 dX8_eventAt_33 ?_
        refine lv_icmp_lt (tgt := 54) C.1 C.2.1 dX8_eventAt_34 (by decide) (fun hq9 => ?_) (fun hq9 => ?_)
        · replace hf := jm_ift hf hq9
          refine lv_bipush (v := (-3)) C.1 C.2.1 dX8_eventAt_54 (by decide) ?_
          obtain ⟨rfl, rfl⟩ := jm_ret_ok hf
          exact jw_ri C hJ hS (Nat.le_refl _) (Nat.le_refl _) dX8_eventAt_56
        · replace hf := jm_iff hf hq9
          refine jw_aload_n C dX8_eventAt_37 rfl (hl.at 0 rfl) ?_
          obtain ⟨v10, h10, hf⟩ := jm_rd_ok hf
          refine jw_gR (Cn := RX8) (T := TX8) (N := 29) C hJ h10 rfl inX8_eventAt_X8 (by decide) (jm_w C 2 rfl) (fun _ h => h) dX8_eventAt_38 ?_
          refine lv_bipush (v := 8) C.1 C.2.1 dX8_eventAt_41 (by decide) ?_
          refine lv_iload_n C.1 C.2.1 dX8_eventAt_43 rfl (hl.at 1 rfl) ?_
          refine lv_imul C.1 C.2.1 dX8_eventAt_44 ?_
          refine lv_iload_n C.1 C.2.1 dX8_eventAt_45 rfl (hl.at 2 rfl) ?_
          refine lv_bipush (v := 8) C.1 C.2.1 dX8_eventAt_46 (by decide) ?_
          refine lv_irem C.1 C.2.1 dX8_eventAt_48 (by decide) ?_
          refine lv_iadd C.1 C.2.1 dX8_eventAt_49 ?_
          obtain ⟨v11, h11, hf⟩ := jm_rd_ok hf
          refine jw_iaload C hJ h11 dX8_eventAt_50 ?_
          refine lv_goto (tgt := 56) C.1 C.2.1 dX8_eventAt_51 (by decide) ?_
          obtain ⟨rfl, rfl⟩ := jm_ret_ok hf
          exact jw_ri C hJ hS (Nat.le_refl _) (Nat.le_refl _) dX8_eventAt_56
    · replace hf := jm_iff hf hq3
      refine lv_iconst (v := (-1)) C.1 C.2.1 dX8_eventAt_12 (by decide) ?_
      obtain ⟨rfl, rfl⟩ := jm_ret_ok hf
      exact jw_ri C hJ hS (Nat.le_refl _) (Nat.le_refl _) dX8_eventAt_13
set_option maxHeartbeats 4000000 in
set_option maxRecDepth 100000 in
theorem cX8_eventAt_C (l : Launch) (G : jm_G) (h0 : Nat) (x1 : Int32) (x2 : Int32) {S Sf : jm_S} {rv : Int32} (hf : fX8_eventAt h0 x1 x2 S = some (rv, Sf)) : Met l yX8_eventAt wsX8_eventAt ({ frames := 2, cells := 0, slots := 0, locals := 46 } : Room) (jm_Pc G S [.ref h0, .int x1, .int x2]) (jm_Q G (some (.int rv)) Sf) 0 0 (jm_A G) := by
  refine Met.ofW (cc := cX8_eventAt) (maxL := 3) (ret := (some .int)) (by decide) rfl ?_
  intro p e s m args below meth c s₁ B hml hv
  obtain ⟨rfl, hJ, hX⟩ := hv
  have C : jm_C G cX8_eventAt 3 RX8 wsX8_eventAt ((some .int)) p s m _ meth c := ⟨B.exec, B.bytes, hml, findClass_of_methodNamed B.named, atoms_spec (ws := wsX8_eventAt) B.pre, B.returns, B.notSynchronized, hX⟩
  obtain ⟨ls, he, hl⟩ := jm_entry m [.inr (some h0), .inl x1, .inl x2] (n := 3) (Nat.le_of_ble_eq_true rfl)
  have he : entryFrame m ([.ref h0, .int x1, .int x2] : List Value).toArray 3 = F0 m 0 ls [] := he
  rw [he]
  exact kX8_eventAt C h0 x1 x2 hf hJ va_S.rf (hl.sub [0, 1, 2] rfl)
/-! CoordinationServiceModel.nodeOf -/
def fX8_nodeOf (h0 : Nat) (x1 : Int32) : jm_P Int32 := jm_rd (jm_o (some h0) 9) fun a1 => jm_bd (fX8_isServer a1 x1) fun v1 => (if v1 = 0 then jm_ret (-1) else jm_rd (jm_gI (some h0) 9 20) fun v3 => (if v3 = 0 then jm_ret (-2) else jm_rd (jm_o (some h0) 9) fun a5 => jm_bd (fX8_path a5) fun v5 => jm_rd (jm_o (some h0) 9) fun a6 => jm_bd (fX8_find a6 x1 v5) fun v6 => (if v6 = (-8) then jm_ret (-3) else jm_ret v6)))
theorem inX8_nodeOf_X8 : ∀ w ∈ wsX80, w ∈ wsX8_nodeOf := fun _ h => List.mem_cons_of_mem _ (List.mem_append_right _ h)
theorem moX8_nodeOf (h0 : Nat) (x1 : Int32) : jm_Mo (fX8_nodeOf h0 x1) := by
  unfold fX8_nodeOf
  exact jm_Mo_rd (fun _ => jm_Mo_bd (moX8_isServer _ _) (fun _ => jm_Mo_if (jm_Mo_ret _) (jm_Mo_rd (fun _ => jm_Mo_if (jm_Mo_ret _) (jm_Mo_rd (fun _ => jm_Mo_bd (moX8_path _) (fun _ => jm_Mo_rd (fun _ => jm_Mo_bd (moX8_find _ _ _) (fun _ => jm_Mo_if (jm_Mo_ret _) (jm_Mo_ret _))))))))))
set_option maxHeartbeats 4000000 in
set_option maxRecDepth 100000 in
theorem kX8_nodeOf {rv : Int32} {Sf : jm_S} (C : jm_C G cX8_nodeOf 3 RX8 wsX8_nodeOf ((some .int)) p s m args meth c) : ∀ (h0 : Nat) (x1 : Int32) {S : jm_S} {H : Heap} {locs : List Loc} {ls : Array Slot}, fX8_nodeOf h0 x1 S = some (rv, Sf) → jm_J G S H → va_S (jm_A G) s.heap H locs → jm_L ls 3 [(0, .inr (some h0)), (1, .inl x1)] → W p l e ({ frames := 2, cells := 0, slots := 0, locals := 46 } : Room) s m args below meth c H locs 0 0 (MQ below (jm_Q G (some (.int rv)) Sf) args s 0 0 (jm_A G)) (F0 m 0 ls []) := by
  intro h0 x1 S H locs ls hf hJ hS hl
  unfold fX8_nodeOf at hf
  refine jw_aload_n C dX8_nodeOf_0 rfl (hl.at 0 rfl) ?_
  refine lv_iload_n C.1 C.2.1 dX8_nodeOf_1 rfl (hl.at 1 rfl) ?_
  obtain ⟨a1, o1, hf⟩ := jm_rd_ok hf
  obtain ⟨v1, S1, h1, hf⟩ := jm_bd_ok hf
  refine jw_cV (q := (RX8, TX8, 29)) C hJ hS o1 rfl (cX8_isServer_C l G a1 x1 h1) (cwV 1 C.2.2.2.2.1 gX8_nodeOf_X8_isServer rfl rfl rfl (by decide +kernel) ⟨Nat.le_of_ble_eq_true rfl, Nat.le_of_ble_eq_true rfl⟩) rfl hl.1 rfl (Nat.le_of_ble_eq_true rfl) dX8_nodeOf_2 ⟨Nat.le_refl _, Nat.le_refl _⟩ (fun H locs hJ hS => ?_)
  refine lv_if_ne (tgt := 10) C.1 C.2.1 dX8_nodeOf_5 (by decide) (fun hq2 => ?_) (fun hq2 => ?_)
  · replace hf := jm_iff hf hq2
    refine jw_aload_n C dX8_nodeOf_10 rfl (hl.at 0 rfl) ?_
    obtain ⟨v3, h3, hf⟩ := jm_rd_ok hf
    refine jw_gI (Cn := RX8) (T := TX8) (N := 29) C hJ h3 rfl inX8_nodeOf_X8 (by decide) (jm_w C 1 rfl) (fun _ h => h) dX8_nodeOf_11 ?_
    refine lv_if_ne (tgt := 20) C.1 C.2.1 dX8_nodeOf_14 (by decide) (fun hq4 => ?_) (fun hq4 => ?_)
    · replace hf := jm_iff hf hq4
      refine jw_aload_n C dX8_nodeOf_20 rfl (hl.at 0 rfl) ?_
      refine lv_iload_n C.1 C.2.1 dX8_nodeOf_21 rfl (hl.at 1 rfl) ?_
      refine jw_aload_n C dX8_nodeOf_22 rfl (hl.at 0 rfl) ?_
      obtain ⟨a5, o5, hf⟩ := jm_rd_ok hf
      obtain ⟨v5, S5, h5, hf⟩ := jm_bd_ok hf
      refine jw_cV (q := (RX8, TX8, 29)) C hJ hS o5 rfl (cX8_path_C l G a5 h5) (cwV 0 C.2.2.2.2.1 gX8_nodeOf_X8_path rfl rfl rfl (by decide +kernel) ⟨Nat.le_of_ble_eq_true rfl, Nat.le_of_ble_eq_true rfl⟩) rfl hl.1 rfl (Nat.le_of_ble_eq_true rfl) dX8_nodeOf_23 ⟨Nat.le_refl _, Nat.le_refl _⟩ (fun H locs hJ hS => ?_)
      obtain ⟨a6, o6, hf⟩ := jm_rd_ok hf
      obtain ⟨v6, S6, h6, hf⟩ := jm_bd_ok hf
      refine jw_cV (q := (RX8, TX8, 29)) C hJ hS o6 rfl (cX8_find_C l G a6 x1 v5 h6) (cwV 2 C.2.2.2.2.1 gX8_nodeOf_X8_find rfl rfl rfl (by decide +kernel) ⟨Nat.le_of_ble_eq_true rfl, Nat.le_of_ble_eq_true rfl⟩) rfl hl.1 rfl (Nat.le_of_ble_eq_true rfl) dX8_nodeOf_26 ⟨Nat.le_refl _, Nat.le_refl _⟩ (fun H locs hJ hS => ?_)
      refine jw_istore_n C dX8_nodeOf_29 rfl hl (by decide) rfl (fun ls hl => ?_)
      refine lv_iload_n C.1 C.2.1 dX8_nodeOf_30 rfl (hl.at 0 rfl) ?_
      refine lv_bipush (v := (-8)) C.1 C.2.1 dX8_nodeOf_31 (by decide) ?_
      refine lv_icmp_ne (tgt := 41) C.1 C.2.1 dX8_nodeOf_33 (by decide) (fun hq7 => ?_) (fun hq7 => ?_)
      · replace hf := jm_iff hf hq7
        refine lv_iload_n C.1 C.2.1 dX8_nodeOf_41 rfl (hl.at 0 rfl) ?_
        obtain ⟨rfl, rfl⟩ := jm_ret_ok hf
        exact jw_ri C hJ hS (Nat.le_refl _) (Nat.le_refl _) dX8_nodeOf_42
      · replace hf := jm_ift hf hq7
        refine lv_bipush (v := (-3)) C.1 C.2.1 dX8_nodeOf_36 (by decide) ?_
        refine lv_goto (tgt := 42) C.1 C.2.1 dX8_nodeOf_38 (by decide) ?_
        obtain ⟨rfl, rfl⟩ := jm_ret_ok hf
        exact jw_ri C hJ hS (Nat.le_refl _) (Nat.le_refl _) dX8_nodeOf_42
    · replace hf := jm_ift hf hq4
      refine lv_bipush (v := (-2)) C.1 C.2.1 dX8_nodeOf_17 (by decide) ?_
      obtain ⟨rfl, rfl⟩ := jm_ret_ok hf
      exact jw_ri C hJ hS (Nat.le_refl _) (Nat.le_refl _) dX8_nodeOf_19
  · replace hf := jm_ift hf hq2
    refine lv_iconst (v := (-1)) C.1 C.2.1 dX8_nodeOf_8 (by decide) ?_
    obtain ⟨rfl, rfl⟩ := jm_ret_ok hf
    exact jw_ri C hJ hS (Nat.le_refl _) (Nat.le_refl _) dX8_nodeOf_9
set_option maxHeartbeats 4000000 in
set_option maxRecDepth 100000 in
theorem cX8_nodeOf_C (l : Launch) (G : jm_G) (h0 : Nat) (x1 : Int32) {S Sf : jm_S} {rv : Int32} (hf : fX8_nodeOf h0 x1 S = some (rv, Sf)) : Met l yX8_nodeOf wsX8_nodeOf ({ frames := 2, cells := 0, slots := 0, locals := 46 } : Room) (jm_Pc G S [.ref h0, .int x1]) (jm_Q G (some (.int rv)) Sf) 0 0 (jm_A G) := by
  refine Met.ofW (cc := cX8_nodeOf) (maxL := 3) (ret := (some .int)) (by decide) rfl ?_
  intro p e s m args below meth c s₁ B hml hv
  obtain ⟨rfl, hJ, hX⟩ := hv
  have C : jm_C G cX8_nodeOf 3 RX8 wsX8_nodeOf ((some .int)) p s m _ meth c := ⟨B.exec, B.bytes, hml, findClass_of_methodNamed B.named, atoms_spec (ws := wsX8_nodeOf) B.pre, B.returns, B.notSynchronized, hX⟩
  obtain ⟨ls, he, hl⟩ := jm_entry m [.inr (some h0), .inl x1] (n := 3) (Nat.le_of_ble_eq_true rfl)
  have he : entryFrame m ([.ref h0, .int x1] : List Value).toArray 3 = F0 m 0 ls [] := he
  rw [he]
  exact kX8_nodeOf C h0 x1 hf hJ va_S.rf (hl.sub [0, 1] rfl)
/-! CoordinationServiceModel.dataAt -/
def fX8_dataAt (h0 : Nat) (x1 : Int32) : jm_P Int32 := jm_rd (jm_o (some h0) 9) fun a1 => jm_bd (fX8_nodeOf a1 x1) fun v1 => (if 0 ≤ v1 then jm_rd (jm_gR (some h0) 9 17) fun v3 => jm_rd (jm_gi v3 0 v1) fun v4 => jm_ret v4 else jm_ret v1)
theorem inX8_dataAt_X8 : ∀ w ∈ wsX80, w ∈ wsX8_dataAt := fun _ h => List.mem_cons_of_mem _ (List.mem_append_right _ h)
theorem moX8_dataAt (h0 : Nat) (x1 : Int32) : jm_Mo (fX8_dataAt h0 x1) := by
  unfold fX8_dataAt
  exact jm_Mo_rd (fun _ => jm_Mo_bd (moX8_nodeOf _ _) (fun _ => jm_Mo_if (jm_Mo_rd (fun _ => jm_Mo_rd (fun _ => jm_Mo_ret _))) (jm_Mo_ret _)))
set_option maxHeartbeats 4000000 in
set_option maxRecDepth 100000 in
theorem kX8_dataAt {rv : Int32} {Sf : jm_S} (C : jm_C G cX8_dataAt 3 RX8 wsX8_dataAt ((some .int)) p s m args meth c) : ∀ (h0 : Nat) (x1 : Int32) {S : jm_S} {H : Heap} {locs : List Loc} {ls : Array Slot}, fX8_dataAt h0 x1 S = some (rv, Sf) → jm_J G S H → va_S (jm_A G) s.heap H locs → jm_L ls 3 [(0, .inr (some h0)), (1, .inl x1)] → W p l e ({ frames := 3, cells := 0, slots := 0, locals := 68 } : Room) s m args below meth c H locs 0 0 (MQ below (jm_Q G (some (.int rv)) Sf) args s 0 0 (jm_A G)) (F0 m 0 ls []) := by
  intro h0 x1 S H locs ls hf hJ hS hl
  unfold fX8_dataAt at hf
  refine jw_aload_n C dX8_dataAt_0 rfl (hl.at 0 rfl) ?_
  refine lv_iload_n C.1 C.2.1 dX8_dataAt_1 rfl (hl.at 1 rfl) ?_
  obtain ⟨a1, o1, hf⟩ := jm_rd_ok hf
  obtain ⟨v1, S1, h1, hf⟩ := jm_bd_ok hf
  refine jw_cV (q := (RX8, TX8, 29)) C hJ hS o1 rfl (cX8_nodeOf_C l G a1 x1 h1) (cwV 1 C.2.2.2.2.1 gX8_dataAt_X8_nodeOf rfl rfl rfl (by decide +kernel) ⟨Nat.le_of_ble_eq_true rfl, Nat.le_of_ble_eq_true rfl⟩) rfl hl.1 rfl (Nat.le_of_ble_eq_true rfl) dX8_dataAt_2 ⟨Nat.le_refl _, Nat.le_refl _⟩ (fun H locs hJ hS => ?_)
  refine jw_istore_n C dX8_dataAt_5 rfl hl (by decide) rfl (fun ls hl => ?_)
  refine lv_iload_n C.1 C.2.1 dX8_dataAt_6 rfl (hl.at 0 rfl) ?_
  refine lv_if_ge (tgt := 14) C.1 C.2.1 dX8_dataAt_7 (by decide) (fun hq2 => ?_) (fun hq2 => ?_)
  · replace hf := jm_ift hf hq2
    refine jw_aload_n C dX8_dataAt_14 rfl (hl.at 1 rfl) ?_
    obtain ⟨v3, h3, hf⟩ := jm_rd_ok hf
    refine jw_gR (Cn := RX8) (T := TX8) (N := 29) C hJ h3 rfl inX8_dataAt_X8 (by decide) (jm_w C 1 rfl) (fun _ h => h) dX8_dataAt_15 ?_
    refine lv_iload_n C.1 C.2.1 dX8_dataAt_18 rfl (hl.at 0 rfl) ?_
    obtain ⟨v4, h4, hf⟩ := jm_rd_ok hf
    refine jw_iaload C hJ h4 dX8_dataAt_19 ?_
    obtain ⟨rfl, rfl⟩ := jm_ret_ok hf
    exact jw_ri C hJ hS (Nat.le_refl _) (Nat.le_refl _) dX8_dataAt_20
  · replace hf := jm_iff hf hq2
    refine lv_iload_n C.1 C.2.1 dX8_dataAt_10 rfl (hl.at 0 rfl) ?_
    refine lv_goto (tgt := 20) C.1 C.2.1 dX8_dataAt_11 (by decide) ?_
    obtain ⟨rfl, rfl⟩ := jm_ret_ok hf
    exact jw_ri C hJ hS (Nat.le_refl _) (Nat.le_refl _) dX8_dataAt_20
set_option maxHeartbeats 4000000 in
set_option maxRecDepth 100000 in
theorem cX8_dataAt_C (l : Launch) (G : jm_G) (h0 : Nat) (x1 : Int32) {S Sf : jm_S} {rv : Int32} (hf : fX8_dataAt h0 x1 S = some (rv, Sf)) : Met l yX8_dataAt wsX8_dataAt ({ frames := 3, cells := 0, slots := 0, locals := 68 } : Room) (jm_Pc G S [.ref h0, .int x1]) (jm_Q G (some (.int rv)) Sf) 0 0 (jm_A G) := by
  refine Met.ofW (cc := cX8_dataAt) (maxL := 3) (ret := (some .int)) (by decide) rfl ?_
  intro p e s m args below meth c s₁ B hml hv
  obtain ⟨rfl, hJ, hX⟩ := hv
  have C : jm_C G cX8_dataAt 3 RX8 wsX8_dataAt ((some .int)) p s m _ meth c := ⟨B.exec, B.bytes, hml, findClass_of_methodNamed B.named, atoms_spec (ws := wsX8_dataAt) B.pre, B.returns, B.notSynchronized, hX⟩
  obtain ⟨ls, he, hl⟩ := jm_entry m [.inr (some h0), .inl x1] (n := 3) (Nat.le_of_ble_eq_true rfl)
  have he : entryFrame m ([.ref h0, .int x1] : List Value).toArray 3 = F0 m 0 ls [] := he
  rw [he]
  exact kX8_dataAt C h0 x1 hf hJ va_S.rf (hl.sub [0, 1] rfl)
/-! CoordinationServiceModel.versionAt -/
def fX8_versionAt (h0 : Nat) (x1 : Int32) : jm_P Int32 := jm_rd (jm_o (some h0) 9) fun a1 => jm_bd (fX8_nodeOf a1 x1) fun v1 => (if 0 ≤ v1 then jm_rd (jm_gR (some h0) 9 18) fun v3 => jm_rd (jm_gi v3 0 v1) fun v4 => jm_ret v4 else jm_ret v1)
theorem inX8_versionAt_X8 : ∀ w ∈ wsX80, w ∈ wsX8_versionAt := fun _ h => List.mem_cons_of_mem _ (List.mem_append_right _ h)
theorem moX8_versionAt (h0 : Nat) (x1 : Int32) : jm_Mo (fX8_versionAt h0 x1) := by
  unfold fX8_versionAt
  exact jm_Mo_rd (fun _ => jm_Mo_bd (moX8_nodeOf _ _) (fun _ => jm_Mo_if (jm_Mo_rd (fun _ => jm_Mo_rd (fun _ => jm_Mo_ret _))) (jm_Mo_ret _)))
set_option maxHeartbeats 4000000 in
set_option maxRecDepth 100000 in
theorem kX8_versionAt {rv : Int32} {Sf : jm_S} (C : jm_C G cX8_versionAt 3 RX8 wsX8_versionAt ((some .int)) p s m args meth c) : ∀ (h0 : Nat) (x1 : Int32) {S : jm_S} {H : Heap} {locs : List Loc} {ls : Array Slot}, fX8_versionAt h0 x1 S = some (rv, Sf) → jm_J G S H → va_S (jm_A G) s.heap H locs → jm_L ls 3 [(0, .inr (some h0)), (1, .inl x1)] → W p l e ({ frames := 3, cells := 0, slots := 0, locals := 68 } : Room) s m args below meth c H locs 0 0 (MQ below (jm_Q G (some (.int rv)) Sf) args s 0 0 (jm_A G)) (F0 m 0 ls []) := by
  intro h0 x1 S H locs ls hf hJ hS hl
  unfold fX8_versionAt at hf
  refine jw_aload_n C dX8_versionAt_0 rfl (hl.at 0 rfl) ?_
  refine lv_iload_n C.1 C.2.1 dX8_versionAt_1 rfl (hl.at 1 rfl) ?_
  obtain ⟨a1, o1, hf⟩ := jm_rd_ok hf
  obtain ⟨v1, S1, h1, hf⟩ := jm_bd_ok hf
  refine jw_cV (q := (RX8, TX8, 29)) C hJ hS o1 rfl (cX8_nodeOf_C l G a1 x1 h1) (cwV 1 C.2.2.2.2.1 gX8_versionAt_X8_nodeOf rfl rfl rfl (by decide +kernel) ⟨Nat.le_of_ble_eq_true rfl, Nat.le_of_ble_eq_true rfl⟩) rfl hl.1 rfl (Nat.le_of_ble_eq_true rfl) dX8_versionAt_2 ⟨Nat.le_refl _, Nat.le_refl _⟩ (fun H locs hJ hS => ?_)
  refine jw_istore_n C dX8_versionAt_5 rfl hl (by decide) rfl (fun ls hl => ?_)
  refine lv_iload_n C.1 C.2.1 dX8_versionAt_6 rfl (hl.at 0 rfl) ?_
  refine lv_if_ge (tgt := 14) C.1 C.2.1 dX8_versionAt_7 (by decide) (fun hq2 => ?_) (fun hq2 => ?_)
  · replace hf := jm_ift hf hq2
    refine jw_aload_n C dX8_versionAt_14 rfl (hl.at 1 rfl) ?_
    obtain ⟨v3, h3, hf⟩ := jm_rd_ok hf
    refine jw_gR (Cn := RX8) (T := TX8) (N := 29) C hJ h3 rfl inX8_versionAt_X8 (by decide) (jm_w C 1 rfl) (fun _ h => h) dX8_versionAt_15 ?_
    refine lv_iload_n C.1 C.2.1 dX8_versionAt_18 rfl (hl.at 0 rfl) ?_
    obtain ⟨v4, h4, hf⟩ := jm_rd_ok hf
    refine jw_iaload C hJ h4 dX8_versionAt_19 ?_
    obtain ⟨rfl, rfl⟩ := jm_ret_ok hf
    exact jw_ri C hJ hS (Nat.le_refl _) (Nat.le_refl _) dX8_versionAt_20
  · replace hf := jm_iff hf hq2
    refine lv_iload_n C.1 C.2.1 dX8_versionAt_10 rfl (hl.at 0 rfl) ?_
    refine lv_goto (tgt := 20) C.1 C.2.1 dX8_versionAt_11 (by decide) ?_
    obtain ⟨rfl, rfl⟩ := jm_ret_ok hf
    exact jw_ri C hJ hS (Nat.le_refl _) (Nat.le_refl _) dX8_versionAt_20
set_option maxHeartbeats 4000000 in
set_option maxRecDepth 100000 in
theorem cX8_versionAt_C (l : Launch) (G : jm_G) (h0 : Nat) (x1 : Int32) {S Sf : jm_S} {rv : Int32} (hf : fX8_versionAt h0 x1 S = some (rv, Sf)) : Met l yX8_versionAt wsX8_versionAt ({ frames := 3, cells := 0, slots := 0, locals := 68 } : Room) (jm_Pc G S [.ref h0, .int x1]) (jm_Q G (some (.int rv)) Sf) 0 0 (jm_A G) := by
  refine Met.ofW (cc := cX8_versionAt) (maxL := 3) (ret := (some .int)) (by decide) rfl ?_
  intro p e s m args below meth c s₁ B hml hv
  obtain ⟨rfl, hJ, hX⟩ := hv
  have C : jm_C G cX8_versionAt 3 RX8 wsX8_versionAt ((some .int)) p s m _ meth c := ⟨B.exec, B.bytes, hml, findClass_of_methodNamed B.named, atoms_spec (ws := wsX8_versionAt) B.pre, B.returns, B.notSynchronized, hX⟩
  obtain ⟨ls, he, hl⟩ := jm_entry m [.inr (some h0), .inl x1] (n := 3) (Nat.le_of_ble_eq_true rfl)
  have he : entryFrame m ([.ref h0, .int x1] : List Value).toArray 3 = F0 m 0 ls [] := he
  rw [he]
  exact kX8_versionAt C h0 x1 hf hJ va_S.rf (hl.sub [0, 1] rfl)
/-! CoordinationServiceModel.ownerAt -/
def fX8_ownerAt (h0 : Nat) (x1 : Int32) : jm_P Int32 := jm_rd (jm_o (some h0) 9) fun a1 => jm_bd (fX8_nodeOf a1 x1) fun v1 => (if 0 ≤ v1 then jm_rd (jm_gR (some h0) 9 19) fun v3 => jm_rd (jm_gi v3 0 v1) fun v4 => jm_ret v4 else jm_ret v1)
theorem inX8_ownerAt_X8 : ∀ w ∈ wsX80, w ∈ wsX8_ownerAt := fun _ h => List.mem_cons_of_mem _ (List.mem_append_right _ h)
theorem moX8_ownerAt (h0 : Nat) (x1 : Int32) : jm_Mo (fX8_ownerAt h0 x1) := by
  unfold fX8_ownerAt
  exact jm_Mo_rd (fun _ => jm_Mo_bd (moX8_nodeOf _ _) (fun _ => jm_Mo_if (jm_Mo_rd (fun _ => jm_Mo_rd (fun _ => jm_Mo_ret _))) (jm_Mo_ret _)))
set_option maxHeartbeats 4000000 in
set_option maxRecDepth 100000 in
theorem kX8_ownerAt {rv : Int32} {Sf : jm_S} (C : jm_C G cX8_ownerAt 3 RX8 wsX8_ownerAt ((some .int)) p s m args meth c) : ∀ (h0 : Nat) (x1 : Int32) {S : jm_S} {H : Heap} {locs : List Loc} {ls : Array Slot}, fX8_ownerAt h0 x1 S = some (rv, Sf) → jm_J G S H → va_S (jm_A G) s.heap H locs → jm_L ls 3 [(0, .inr (some h0)), (1, .inl x1)] → W p l e ({ frames := 3, cells := 0, slots := 0, locals := 68 } : Room) s m args below meth c H locs 0 0 (MQ below (jm_Q G (some (.int rv)) Sf) args s 0 0 (jm_A G)) (F0 m 0 ls []) := by
  intro h0 x1 S H locs ls hf hJ hS hl
  unfold fX8_ownerAt at hf
  refine jw_aload_n C dX8_ownerAt_0 rfl (hl.at 0 rfl) ?_
  refine lv_iload_n C.1 C.2.1 dX8_ownerAt_1 rfl (hl.at 1 rfl) ?_
  obtain ⟨a1, o1, hf⟩ := jm_rd_ok hf
  obtain ⟨v1, S1, h1, hf⟩ := jm_bd_ok hf
  refine jw_cV (q := (RX8, TX8, 29)) C hJ hS o1 rfl (cX8_nodeOf_C l G a1 x1 h1) (cwV 1 C.2.2.2.2.1 gX8_ownerAt_X8_nodeOf rfl rfl rfl (by decide +kernel) ⟨Nat.le_of_ble_eq_true rfl, Nat.le_of_ble_eq_true rfl⟩) rfl hl.1 rfl (Nat.le_of_ble_eq_true rfl) dX8_ownerAt_2 ⟨Nat.le_refl _, Nat.le_refl _⟩ (fun H locs hJ hS => ?_)
  refine jw_istore_n C dX8_ownerAt_5 rfl hl (by decide) rfl (fun ls hl => ?_)
  refine lv_iload_n C.1 C.2.1 dX8_ownerAt_6 rfl (hl.at 0 rfl) ?_
  refine lv_if_ge (tgt := 14) C.1 C.2.1 dX8_ownerAt_7 (by decide) (fun hq2 => ?_) (fun hq2 => ?_)
  · replace hf := jm_ift hf hq2
    refine jw_aload_n C dX8_ownerAt_14 rfl (hl.at 1 rfl) ?_
    obtain ⟨v3, h3, hf⟩ := jm_rd_ok hf
    refine jw_gR (Cn := RX8) (T := TX8) (N := 29) C hJ h3 rfl inX8_ownerAt_X8 (by decide) (jm_w C 1 rfl) (fun _ h => h) dX8_ownerAt_15 ?_
    refine lv_iload_n C.1 C.2.1 dX8_ownerAt_18 rfl (hl.at 0 rfl) ?_
    obtain ⟨v4, h4, hf⟩ := jm_rd_ok hf
    refine jw_iaload C hJ h4 dX8_ownerAt_19 ?_
    obtain ⟨rfl, rfl⟩ := jm_ret_ok hf
    exact jw_ri C hJ hS (Nat.le_refl _) (Nat.le_refl _) dX8_ownerAt_20
  · replace hf := jm_iff hf hq2
    refine lv_iload_n C.1 C.2.1 dX8_ownerAt_10 rfl (hl.at 0 rfl) ?_
    refine lv_goto (tgt := 20) C.1 C.2.1 dX8_ownerAt_11 (by decide) ?_
    obtain ⟨rfl, rfl⟩ := jm_ret_ok hf
    exact jw_ri C hJ hS (Nat.le_refl _) (Nat.le_refl _) dX8_ownerAt_20
set_option maxHeartbeats 4000000 in
set_option maxRecDepth 100000 in
theorem cX8_ownerAt_C (l : Launch) (G : jm_G) (h0 : Nat) (x1 : Int32) {S Sf : jm_S} {rv : Int32} (hf : fX8_ownerAt h0 x1 S = some (rv, Sf)) : Met l yX8_ownerAt wsX8_ownerAt ({ frames := 3, cells := 0, slots := 0, locals := 68 } : Room) (jm_Pc G S [.ref h0, .int x1]) (jm_Q G (some (.int rv)) Sf) 0 0 (jm_A G) := by
  refine Met.ofW (cc := cX8_ownerAt) (maxL := 3) (ret := (some .int)) (by decide) rfl ?_
  intro p e s m args below meth c s₁ B hml hv
  obtain ⟨rfl, hJ, hX⟩ := hv
  have C : jm_C G cX8_ownerAt 3 RX8 wsX8_ownerAt ((some .int)) p s m _ meth c := ⟨B.exec, B.bytes, hml, findClass_of_methodNamed B.named, atoms_spec (ws := wsX8_ownerAt) B.pre, B.returns, B.notSynchronized, hX⟩
  obtain ⟨ls, he, hl⟩ := jm_entry m [.inr (some h0), .inl x1] (n := 3) (Nat.le_of_ble_eq_true rfl)
  have he : entryFrame m ([.ref h0, .int x1] : List Value).toArray 3 = F0 m 0 ls [] := he
  rw [he]
  exact kX8_ownerAt C h0 x1 hf hJ va_S.rf (hl.sub [0, 1] rfl)
/-! CoordinationServiceModel.childCount -/
def fX8_childCount (h0 : Nat) (x1 : Int32) : jm_P Int32 := jm_rd (jm_o (some h0) 9) fun a1 => jm_bd (fX8_isServer a1 x1) fun v1 => (if v1 = 0 then jm_ret (-1) else jm_rd (jm_o (some h0) 9) fun a3 => jm_bd (fX8_path a3) fun v3 => (if v3 = 0 then jm_rd (jm_o (some h0) 9) fun a5 => jm_bd (fX8_children a5 x1 v3) fun v5 => jm_ret v5 else jm_rd (jm_o (some h0) 9) fun a6 => jm_bd (fX8_find a6 x1 v3) fun v6 => (if v6 = (-8) then jm_ret (-3) else jm_rd (jm_o (some h0) 9) fun a8 => jm_bd (fX8_children a8 x1 v3) fun v8 => jm_ret v8)))
theorem moX8_childCount (h0 : Nat) (x1 : Int32) : jm_Mo (fX8_childCount h0 x1) := by
  unfold fX8_childCount
  exact jm_Mo_rd (fun _ => jm_Mo_bd (moX8_isServer _ _) (fun _ => jm_Mo_if (jm_Mo_ret _) (jm_Mo_rd (fun _ => jm_Mo_bd (moX8_path _) (fun _ => jm_Mo_if (jm_Mo_rd (fun _ => jm_Mo_bd (moX8_children _ _ _) (fun _ => jm_Mo_ret _))) (jm_Mo_rd (fun _ => jm_Mo_bd (moX8_find _ _ _) (fun _ => jm_Mo_if (jm_Mo_ret _) (jm_Mo_rd (fun _ => jm_Mo_bd (moX8_children _ _ _) (fun _ => jm_Mo_ret _)))))))))))
set_option maxHeartbeats 4000000 in
set_option maxRecDepth 100000 in
theorem kX8_childCount {rv : Int32} {Sf : jm_S} (C : jm_C G cX8_childCount 3 RX8 wsX8_childCount ((some .int)) p s m args meth c) : ∀ (h0 : Nat) (x1 : Int32) {S : jm_S} {H : Heap} {locs : List Loc} {ls : Array Slot}, fX8_childCount h0 x1 S = some (rv, Sf) → jm_J G S H → va_S (jm_A G) s.heap H locs → jm_L ls 3 [(0, .inr (some h0)), (1, .inl x1)] → W p l e ({ frames := 3, cells := 0, slots := 0, locals := 66 } : Room) s m args below meth c H locs 0 0 (MQ below (jm_Q G (some (.int rv)) Sf) args s 0 0 (jm_A G)) (F0 m 0 ls []) := by
  intro h0 x1 S H locs ls hf hJ hS hl
  unfold fX8_childCount at hf
  refine jw_aload_n C dX8_childCount_0 rfl (hl.at 0 rfl) ?_
  refine lv_iload_n C.1 C.2.1 dX8_childCount_1 rfl (hl.at 1 rfl) ?_
  obtain ⟨a1, o1, hf⟩ := jm_rd_ok hf
  obtain ⟨v1, S1, h1, hf⟩ := jm_bd_ok hf
  refine jw_cV (q := (RX8, TX8, 29)) C hJ hS o1 rfl (cX8_isServer_C l G a1 x1 h1) (cwV 1 C.2.2.2.2.1 gX8_childCount_X8_isServer rfl rfl rfl (by decide +kernel) ⟨Nat.le_of_ble_eq_true rfl, Nat.le_of_ble_eq_true rfl⟩) rfl hl.1 rfl (Nat.le_of_ble_eq_true rfl) dX8_childCount_2 ⟨Nat.le_refl _, Nat.le_refl _⟩ (fun H locs hJ hS => ?_)
  refine lv_if_ne (tgt := 10) C.1 C.2.1 dX8_childCount_5 (by decide) (fun hq2 => ?_) (fun hq2 => ?_)
  · replace hf := jm_iff hf hq2
    refine jw_aload_n C dX8_childCount_10 rfl (hl.at 0 rfl) ?_
    obtain ⟨a3, o3, hf⟩ := jm_rd_ok hf
    obtain ⟨v3, S3, h3, hf⟩ := jm_bd_ok hf
    refine jw_cV (q := (RX8, TX8, 29)) C hJ hS o3 rfl (cX8_path_C l G a3 h3) (cwV 0 C.2.2.2.2.1 gX8_childCount_X8_path rfl rfl rfl (by decide +kernel) ⟨Nat.le_of_ble_eq_true rfl, Nat.le_of_ble_eq_true rfl⟩) rfl hl.1 rfl (Nat.le_of_ble_eq_true rfl) dX8_childCount_11 ⟨Nat.le_refl _, Nat.le_refl _⟩ (fun H locs hJ hS => ?_)
    refine jw_istore_n C dX8_childCount_14 rfl hl (by decide) rfl (fun ls hl => ?_)
    refine lv_iload_n C.1 C.2.1 dX8_childCount_15 rfl (hl.at 0 rfl) ?_
    refine lv_if_eq (tgt := 35) C.1 C.2.1 dX8_childCount_16 (by decide) (fun hq4 => ?_) (fun hq4 => ?_)
    · replace hf := jm_ift hf hq4
      refine jw_aload_n C dX8_childCount_35 rfl (hl.at 1 rfl) ?_
      refine lv_iload_n C.1 C.2.1 dX8_childCount_36 rfl (hl.at 2 rfl) ?_
      refine lv_iload_n C.1 C.2.1 dX8_childCount_37 rfl (hl.at 0 rfl) ?_
      obtain ⟨a5, o5, hf⟩ := jm_rd_ok hf
      obtain ⟨v5, S5, h5, hf⟩ := jm_bd_ok hf
      refine jw_cV (q := (RX8, TX8, 29)) C hJ hS o5 rfl (cX8_children_C l G a5 x1 v3 h5) (cwV 2 C.2.2.2.2.1 gX8_childCount_X8_children rfl rfl rfl (by decide +kernel) ⟨Nat.le_of_ble_eq_true rfl, Nat.le_of_ble_eq_true rfl⟩) rfl hl.1 rfl (Nat.le_of_ble_eq_true rfl) dX8_childCount_38 ⟨Nat.le_refl _, Nat.le_refl _⟩ (fun H locs hJ hS => ?_)
      obtain ⟨rfl, rfl⟩ := jm_ret_ok hf
      exact jw_ri C hJ hS (Nat.le_refl _) (Nat.le_refl _) dX8_childCount_41
    · replace hf := jm_iff hf hq4
      refine jw_aload_n C dX8_childCount_19 rfl (hl.at 1 rfl) ?_
      refine lv_iload_n C.1 C.2.1 dX8_childCount_20 rfl (hl.at 2 rfl) ?_
      refine lv_iload_n C.1 C.2.1 dX8_childCount_21 rfl (hl.at 0 rfl) ?_
      obtain ⟨a6, o6, hf⟩ := jm_rd_ok hf
      obtain ⟨v6, S6, h6, hf⟩ := jm_bd_ok hf
      refine jw_cV (q := (RX8, TX8, 29)) C hJ hS o6 rfl (cX8_find_C l G a6 x1 v3 h6) (cwV 2 C.2.2.2.2.1 gX8_childCount_X8_find rfl rfl rfl (by decide +kernel) ⟨Nat.le_of_ble_eq_true rfl, Nat.le_of_ble_eq_true rfl⟩) rfl hl.1 rfl (Nat.le_of_ble_eq_true rfl) dX8_childCount_22 ⟨Nat.le_refl _, Nat.le_refl _⟩ (fun H locs hJ hS => ?_)
      refine lv_bipush (v := (-8)) C.1 C.2.1 dX8_childCount_25 (by decide) ?_
      refine lv_icmp_ne (tgt := 35) C.1 C.2.1 dX8_childCount_27 (by decide) (fun hq7 => ?_) (fun hq7 => ?_)
      · replace hf := jm_iff hf hq7
        refine jw_aload_n C dX8_childCount_35 rfl (hl.at 1 rfl) ?_
        refine lv_iload_n C.1 C.2.1 dX8_childCount_36 rfl (hl.at 2 rfl) ?_
        refine lv_iload_n C.1 C.2.1 dX8_childCount_37 rfl (hl.at 0 rfl) ?_
        obtain ⟨a8, o8, hf⟩ := jm_rd_ok hf
        obtain ⟨v8, S8, h8, hf⟩ := jm_bd_ok hf
        refine jw_cV (q := (RX8, TX8, 29)) C hJ hS o8 rfl (cX8_children_C l G a8 x1 v3 h8) (cwV 2 C.2.2.2.2.1 gX8_childCount_X8_children rfl rfl rfl (by decide +kernel) ⟨Nat.le_of_ble_eq_true rfl, Nat.le_of_ble_eq_true rfl⟩) rfl hl.1 rfl (Nat.le_of_ble_eq_true rfl) dX8_childCount_38 ⟨Nat.le_refl _, Nat.le_refl _⟩ (fun H locs hJ hS => ?_)
        obtain ⟨rfl, rfl⟩ := jm_ret_ok hf
        exact jw_ri C hJ hS (Nat.le_refl _) (Nat.le_refl _) dX8_childCount_41
      · replace hf := jm_ift hf hq7
        refine lv_bipush (v := (-3)) C.1 C.2.1 dX8_childCount_30 (by decide) ?_
        refine lv_goto (tgt := 41) C.1 C.2.1 dX8_childCount_32 (by decide) ?_
        obtain ⟨rfl, rfl⟩ := jm_ret_ok hf
        exact jw_ri C hJ hS (Nat.le_refl _) (Nat.le_refl _) dX8_childCount_41
  · replace hf := jm_ift hf hq2
    refine lv_iconst (v := (-1)) C.1 C.2.1 dX8_childCount_8 (by decide) ?_
    obtain ⟨rfl, rfl⟩ := jm_ret_ok hf
    exact jw_ri C hJ hS (Nat.le_refl _) (Nat.le_refl _) dX8_childCount_9
set_option maxHeartbeats 4000000 in
set_option maxRecDepth 100000 in
theorem cX8_childCount_C (l : Launch) (G : jm_G) (h0 : Nat) (x1 : Int32) {S Sf : jm_S} {rv : Int32} (hf : fX8_childCount h0 x1 S = some (rv, Sf)) : Met l yX8_childCount wsX8_childCount ({ frames := 3, cells := 0, slots := 0, locals := 66 } : Room) (jm_Pc G S [.ref h0, .int x1]) (jm_Q G (some (.int rv)) Sf) 0 0 (jm_A G) := by
  refine Met.ofW (cc := cX8_childCount) (maxL := 3) (ret := (some .int)) (by decide) rfl ?_
  intro p e s m args below meth c s₁ B hml hv
  obtain ⟨rfl, hJ, hX⟩ := hv
  have C : jm_C G cX8_childCount 3 RX8 wsX8_childCount ((some .int)) p s m _ meth c := ⟨B.exec, B.bytes, hml, findClass_of_methodNamed B.named, atoms_spec (ws := wsX8_childCount) B.pre, B.returns, B.notSynchronized, hX⟩
  obtain ⟨ls, he, hl⟩ := jm_entry m [.inr (some h0), .inl x1] (n := 3) (Nat.le_of_ble_eq_true rfl)
  have he : entryFrame m ([.ref h0, .int x1] : List Value).toArray 3 = F0 m 0 ls [] := he
  rw [he]
  exact kX8_childCount C h0 x1 hf hJ va_S.rf (hl.sub [0, 1] rfl)
/-! CoordinationServiceModel.nodeCount -/
def fX8_nodeCount (h0 : Nat) (x1 : Int32) : jm_P Int32 := jm_rd (jm_o (some h0) 9) fun a1 => jm_bd (fX8_isServer a1 x1) fun v1 => (if v1 = 0 then jm_ret (-1) else jm_rd (jm_gR (some h0) 9 15) fun v3 => jm_rd (jm_gi v3 0 x1) fun v4 => jm_ret v4)
theorem inX8_nodeCount_X8 : ∀ w ∈ wsX80, w ∈ wsX8_nodeCount := fun _ h => List.mem_cons_of_mem _ (List.mem_append_right _ h)
theorem moX8_nodeCount (h0 : Nat) (x1 : Int32) : jm_Mo (fX8_nodeCount h0 x1) := by
  unfold fX8_nodeCount
  exact jm_Mo_rd (fun _ => jm_Mo_bd (moX8_isServer _ _) (fun _ => jm_Mo_if (jm_Mo_ret _) (jm_Mo_rd (fun _ => jm_Mo_rd (fun _ => jm_Mo_ret _)))))
set_option maxHeartbeats 4000000 in
set_option maxRecDepth 100000 in
theorem kX8_nodeCount {rv : Int32} {Sf : jm_S} (C : jm_C G cX8_nodeCount 2 RX8 wsX8_nodeCount ((some .int)) p s m args meth c) : ∀ (h0 : Nat) (x1 : Int32) {S : jm_S} {H : Heap} {locs : List Loc} {ls : Array Slot}, fX8_nodeCount h0 x1 S = some (rv, Sf) → jm_J G S H → va_S (jm_A G) s.heap H locs → jm_L ls 2 [(0, .inr (some h0)), (1, .inl x1)] → W p l e ({ frames := 2, cells := 0, slots := 0, locals := 46 } : Room) s m args below meth c H locs 0 0 (MQ below (jm_Q G (some (.int rv)) Sf) args s 0 0 (jm_A G)) (F0 m 0 ls []) := by
  intro h0 x1 S H locs ls hf hJ hS hl
  unfold fX8_nodeCount at hf
  refine jw_aload_n C dX8_nodeCount_0 rfl (hl.at 0 rfl) ?_
  refine lv_iload_n C.1 C.2.1 dX8_nodeCount_1 rfl (hl.at 1 rfl) ?_
  obtain ⟨a1, o1, hf⟩ := jm_rd_ok hf
  obtain ⟨v1, S1, h1, hf⟩ := jm_bd_ok hf
  refine jw_cV (q := (RX8, TX8, 29)) C hJ hS o1 rfl (cX8_isServer_C l G a1 x1 h1) (cwV 1 C.2.2.2.2.1 gX8_nodeCount_X8_isServer rfl rfl rfl (by decide +kernel) ⟨Nat.le_of_ble_eq_true rfl, Nat.le_of_ble_eq_true rfl⟩) rfl hl.1 rfl (Nat.le_of_ble_eq_true rfl) dX8_nodeCount_2 ⟨Nat.le_refl _, Nat.le_refl _⟩ (fun H locs hJ hS => ?_)
  refine lv_if_eq (tgt := 17) C.1 C.2.1 dX8_nodeCount_5 (by decide) (fun hq2 => ?_) (fun hq2 => ?_)
  · replace hf := jm_ift hf hq2
    refine lv_iconst (v := (-1)) C.1 C.2.1 dX8_nodeCount_17 (by decide) ?_
    obtain ⟨rfl, rfl⟩ := jm_ret_ok hf
    exact jw_ri C hJ hS (Nat.le_refl _) (Nat.le_refl _) dX8_nodeCount_18
  · replace hf := jm_iff hf hq2
    refine jw_aload_n C dX8_nodeCount_8 rfl (hl.at 0 rfl) ?_
    obtain ⟨v3, h3, hf⟩ := jm_rd_ok hf
    refine jw_gR (Cn := RX8) (T := TX8) (N := 29) C hJ h3 rfl inX8_nodeCount_X8 (by decide) (jm_w C 1 rfl) (fun _ h => h) dX8_nodeCount_9 ?_
    refine lv_iload_n C.1 C.2.1 dX8_nodeCount_12 rfl (hl.at 1 rfl) ?_
    obtain ⟨v4, h4, hf⟩ := jm_rd_ok hf
    refine jw_iaload C hJ h4 dX8_nodeCount_13 ?_
    refine lv_goto (tgt := 18) C.1 C.2.1 dX8_nodeCount_14 (by decide) ?_
    obtain ⟨rfl, rfl⟩ := jm_ret_ok hf
    exact jw_ri C hJ hS (Nat.le_refl _) (Nat.le_refl _) dX8_nodeCount_18
set_option maxHeartbeats 4000000 in
set_option maxRecDepth 100000 in
theorem cX8_nodeCount_C (l : Launch) (G : jm_G) (h0 : Nat) (x1 : Int32) {S Sf : jm_S} {rv : Int32} (hf : fX8_nodeCount h0 x1 S = some (rv, Sf)) : Met l yX8_nodeCount wsX8_nodeCount ({ frames := 2, cells := 0, slots := 0, locals := 46 } : Room) (jm_Pc G S [.ref h0, .int x1]) (jm_Q G (some (.int rv)) Sf) 0 0 (jm_A G) := by
  refine Met.ofW (cc := cX8_nodeCount) (maxL := 2) (ret := (some .int)) (by decide) rfl ?_
  intro p e s m args below meth c s₁ B hml hv
  obtain ⟨rfl, hJ, hX⟩ := hv
  have C : jm_C G cX8_nodeCount 2 RX8 wsX8_nodeCount ((some .int)) p s m _ meth c := ⟨B.exec, B.bytes, hml, findClass_of_methodNamed B.named, atoms_spec (ws := wsX8_nodeCount) B.pre, B.returns, B.notSynchronized, hX⟩
  obtain ⟨ls, he, hl⟩ := jm_entry m [.inr (some h0), .inl x1] (n := 2) (Nat.le_of_ble_eq_true rfl)
  have he : entryFrame m ([.ref h0, .int x1] : List Value).toArray 2 = F0 m 0 ls [] := he
  rw [he]
  exact kX8_nodeCount C h0 x1 hf hJ va_S.rf (hl.sub [0, 1] rfl)
/-! CoordinationServiceModel.commonLog -/
def fX8_commonLog (h0 : Nat) (x1 : Int32) (x2 : Int32) : jm_P Int32 := jm_rd (jm_o (some h0) 9) fun a1 => jm_bd (fX8_isServer a1 x1) fun v1 => (if v1 = 0 then jm_ret (-1) else jm_rd (jm_o (some h0) 9) fun a3 => jm_bd (fX8_isServer a3 x2) fun v3 => (if v3 = 0 then jm_ret (-1) else jm_rd (jm_o (some h0) 9) fun a5 => jm_bd (fX8_common a5 x1 x2) fun v5 => jm_ret v5))
theorem moX8_commonLog (h0 : Nat) (x1 : Int32) (x2 : Int32) : jm_Mo (fX8_commonLog h0 x1 x2) := by
  unfold fX8_commonLog
  exact jm_Mo_rd (fun _ => jm_Mo_bd (moX8_isServer _ _) (fun _ => jm_Mo_if (jm_Mo_ret _) (jm_Mo_rd (fun _ => jm_Mo_bd (moX8_isServer _ _) (fun _ => jm_Mo_if (jm_Mo_ret _) (jm_Mo_rd (fun _ => jm_Mo_bd (moX8_common _ _ _) (fun _ => jm_Mo_ret _))))))))
set_option maxHeartbeats 4000000 in
set_option maxRecDepth 100000 in
theorem kX8_commonLog {rv : Int32} {Sf : jm_S} (C : jm_C G cX8_commonLog 3 RX8 wsX8_commonLog ((some .int)) p s m args meth c) : ∀ (h0 : Nat) (x1 : Int32) (x2 : Int32) {S : jm_S} {H : Heap} {locs : List Loc} {ls : Array Slot}, fX8_commonLog h0 x1 x2 S = some (rv, Sf) → jm_J G S H → va_S (jm_A G) s.heap H locs → jm_L ls 3 [(0, .inr (some h0)), (1, .inl x1), (2, .inl x2)] → W p l e ({ frames := 2, cells := 0, slots := 0, locals := 46 } : Room) s m args below meth c H locs 0 0 (MQ below (jm_Q G (some (.int rv)) Sf) args s 0 0 (jm_A G)) (F0 m 0 ls []) := by
  intro h0 x1 x2 S H locs ls hf hJ hS hl
  unfold fX8_commonLog at hf
  refine jw_aload_n C dX8_commonLog_0 rfl (hl.at 0 rfl) ?_
  refine lv_iload_n C.1 C.2.1 dX8_commonLog_1 rfl (hl.at 1 rfl) ?_
  obtain ⟨a1, o1, hf⟩ := jm_rd_ok hf
  obtain ⟨v1, S1, h1, hf⟩ := jm_bd_ok hf
  refine jw_cV (q := (RX8, TX8, 29)) C hJ hS o1 rfl (cX8_isServer_C l G a1 x1 h1) (cwV 1 C.2.2.2.2.1 gX8_commonLog_X8_isServer rfl rfl rfl (by decide +kernel) ⟨Nat.le_of_ble_eq_true rfl, Nat.le_of_ble_eq_true rfl⟩) rfl hl.1 rfl (Nat.le_of_ble_eq_true rfl) dX8_commonLog_2 ⟨Nat.le_refl _, Nat.le_refl _⟩ (fun H locs hJ hS => ?_)
  refine lv_if_eq (tgt := 25) C.1 C.2.1 dX8_commonLog_5 (by decide) (fun hq2 => ?_) (fun hq2 => ?_)
  · replace hf := jm_ift hf hq2
    refine lv_iconst (v := (-1)) C.1 C.2.1 dX8_commonLog_25 (by decide) ?_
    obtain ⟨rfl, rfl⟩ := jm_ret_ok hf
    exact jw_ri C hJ hS (Nat.le_refl _) (Nat.le_refl _) dX8_commonLog_26
  · replace hf := jm_iff hf hq2
    refine jw_aload_n C dX8_commonLog_8 rfl (hl.at 0 rfl) ?_
    refine lv_iload_n C.1 C.2.1 dX8_commonLog_9 rfl (hl.at 2 rfl) ?_
    obtain ⟨a3, o3, hf⟩ := jm_rd_ok hf
    obtain ⟨v3, S3, h3, hf⟩ := jm_bd_ok hf
    refine jw_cV (q := (RX8, TX8, 29)) C hJ hS o3 rfl (cX8_isServer_C l G a3 x2 h3) (cwV 1 C.2.2.2.2.1 gX8_commonLog_X8_isServer rfl rfl rfl (by decide +kernel) ⟨Nat.le_of_ble_eq_true rfl, Nat.le_of_ble_eq_true rfl⟩) rfl hl.1 rfl (Nat.le_of_ble_eq_true rfl) dX8_commonLog_10 ⟨Nat.le_refl _, Nat.le_refl _⟩ (fun H locs hJ hS => ?_)
    refine lv_if_eq (tgt := 25) C.1 C.2.1 dX8_commonLog_13 (by decide) (fun hq4 => ?_) (fun hq4 => ?_)
    · replace hf := jm_ift hf hq4
      refine lv_iconst (v := (-1)) C.1 C.2.1 dX8_commonLog_25 (by decide) ?_
      obtain ⟨rfl, rfl⟩ := jm_ret_ok hf
      exact jw_ri C hJ hS (Nat.le_refl _) (Nat.le_refl _) dX8_commonLog_26
    · replace hf := jm_iff hf hq4
      refine jw_aload_n C dX8_commonLog_16 rfl (hl.at 0 rfl) ?_
      refine lv_iload_n C.1 C.2.1 dX8_commonLog_17 rfl (hl.at 1 rfl) ?_
      refine lv_iload_n C.1 C.2.1 dX8_commonLog_18 rfl (hl.at 2 rfl) ?_
      obtain ⟨a5, o5, hf⟩ := jm_rd_ok hf
      obtain ⟨v5, S5, h5, hf⟩ := jm_bd_ok hf
      refine jw_cV (q := (RX8, TX8, 29)) C hJ hS o5 rfl (cX8_common_C l G a5 x1 x2 h5) (cwV 2 C.2.2.2.2.1 gX8_commonLog_X8_common rfl rfl rfl (by decide +kernel) ⟨Nat.le_of_ble_eq_true rfl, Nat.le_of_ble_eq_true rfl⟩) rfl hl.1 rfl (Nat.le_of_ble_eq_true rfl) dX8_commonLog_19 ⟨Nat.le_refl _, Nat.le_refl _⟩ (fun H locs hJ hS => ?_)
      refine lv_goto (tgt := 26) C.1 C.2.1 dX8_commonLog_22 (by decide) ?_
      obtain ⟨rfl, rfl⟩ := jm_ret_ok hf
      exact jw_ri C hJ hS (Nat.le_refl _) (Nat.le_refl _) dX8_commonLog_26
set_option maxHeartbeats 4000000 in
set_option maxRecDepth 100000 in
theorem cX8_commonLog_C (l : Launch) (G : jm_G) (h0 : Nat) (x1 : Int32) (x2 : Int32) {S Sf : jm_S} {rv : Int32} (hf : fX8_commonLog h0 x1 x2 S = some (rv, Sf)) : Met l yX8_commonLog wsX8_commonLog ({ frames := 2, cells := 0, slots := 0, locals := 46 } : Room) (jm_Pc G S [.ref h0, .int x1, .int x2]) (jm_Q G (some (.int rv)) Sf) 0 0 (jm_A G) := by
  refine Met.ofW (cc := cX8_commonLog) (maxL := 3) (ret := (some .int)) (by decide) rfl ?_
  intro p e s m args below meth c s₁ B hml hv
  obtain ⟨rfl, hJ, hX⟩ := hv
  have C : jm_C G cX8_commonLog 3 RX8 wsX8_commonLog ((some .int)) p s m _ meth c := ⟨B.exec, B.bytes, hml, findClass_of_methodNamed B.named, atoms_spec (ws := wsX8_commonLog) B.pre, B.returns, B.notSynchronized, hX⟩
  obtain ⟨ls, he, hl⟩ := jm_entry m [.inr (some h0), .inl x1, .inl x2] (n := 3) (Nat.le_of_ble_eq_true rfl)
  have he : entryFrame m ([.ref h0, .int x1, .int x2] : List Value).toArray 3 = F0 m 0 ls [] := he
  rw [he]
  exact kX8_commonLog C h0 x1 x2 hf hJ va_S.rf (hl.sub [0, 1, 2] rfl)
end JG
