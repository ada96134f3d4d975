/-! ===== the reference is made ===== -/
section BM
variable {n0 t0 : Nat} {T : Nat → Option jm_E} {m s j : Nat} {β : Type}
/-- the reference's rows by offset: kind and length by the place in their order -/
def xm (i : Nat) : Nat := if i < 4 then i + 1 else if i ≤ 14 then i + 5 else if i = 15 then 21 else if i ≤ 17 then i + 7 else i + 8
def tM (n0 t0 : Nat) : Nat → Option jm_E := fun a => if a < 111 then tD n0 t0 a else if a = 111 then some (.inr (9, [.inl 3, .inr (some (n0 + 112)), .inr (some (n0 + 113)), .inr (some (n0 + 114)), .inr (some (n0 + 115)), .inl 0, .inl 0, .inl 0, .inl 0, .inr (some (n0 + 116)), .inr (some (n0 + 117)), .inr (some (n0 + 118)), .inr (some (n0 + 119)), .inr (some (n0 + 120)), .inr (some (n0 + 121)), .inr (some (n0 + 122)), .inr (some (n0 + 123)), .inr (some (n0 + 124)), .inr (some (n0 + 125)), .inr (some (n0 + 126)), .inl 0, .inr (some (n0 + 127)), .inl 0, .inr (some (n0 + 128)), .inr (some (n0 + 129)), .inl 0, .inr (some (n0 + 130)), .inr (some (n0 + 131)), .inr (some (n0 + 132))])) else if a < 133 then some (.inl (mt (xm (a - 112)), ml (xm (a - 112)), .inl (fun _ => 0))) else none
/-- the reference's object and c of its rows -/
def vM (n0 t0 : Nat) (fs : List jm_V) (c : Nat) : Nat → Option jm_E := fun a => if a < 111 then tD n0 t0 a else if a = 111 then some (.inr (9, fs)) else if a < 112 + c then some (.inl (mt (xm (a - 112)), ml (xm (a - 112)), .inl (fun _ => 0))) else none
theorem vM_o {fs : List jm_V} {c : Nat} : vM n0 t0 fs c 111 = some (.inr (9, fs)) := by
  unfold vM
  rw [if_neg (by omega), if_pos rfl]
theorem tD_o {a : Nat} (h : 111 ≤ a) : tD n0 t0 a = none := by
  unfold tD
  rw [va_n (by omega), sU_o (by omega) (by omega), sU_o (by omega) (by omega), sU_o (by omega) (by omega), sU_o (by omega) (by omega), sU_o (by omega) (by omega), va_n (by omega)]
  unfold tC
  rw [if_neg (by omega), if_neg (by omega), if_neg (by omega), if_neg (by omega), if_neg (by omega), if_neg (by omega), if_neg (by omega), if_neg (by omega)]
theorem vM_set {fs fs' : List jm_V} {c : Nat} : va_up (vM n0 t0 fs c) 111 (some (.inr (9, fs'))) = vM n0 t0 fs' c := by
  funext a
  by_cases h : a = 111
  · subst h; rw [va_s, vM_o]
  · rw [va_n h]
    unfold vM
    rw [if_neg h, if_neg h]
theorem vM_new {fs : List jm_V} {c : Nat} : va_up (vM n0 t0 fs c) (112 + c) (some (.inl (mt (xm c), ml (xm c), .inl (fun _ => 0)))) = vM n0 t0 fs (c + 1) := by
  funext a
  by_cases h : a = 112 + c
  · subst h
    rw [va_s]
    unfold vM
    rw [if_neg (by omega), if_neg (by omega), if_pos (by omega), Nat.add_sub_cancel_left]
  · rw [va_n h]
    unfold vM
    by_cases h1 : a < 111
    · rw [if_pos h1, if_pos h1]
    · rw [if_neg h1, if_neg h1]
      by_cases h2 : a = 111
      · rw [if_pos h2, if_pos h2]
      · rw [if_neg h2, if_neg h2]
        by_cases h3 : a < 112 + c
        · rw [if_pos h3, if_pos (by omega)]
        · rw [if_neg h3, if_neg (by omega)]
theorem b_row {c k t n : Nat} {fs fs' : List jm_V} (ht : t0 < n0) (hn : n ≤ 1000) (h1 : mt (xm c) = t) (h2 : ml (xm c) = n) (hk : k < fs.length) (hf : fs.set k (.inr (some (n0 + (112 + c)))) = fs') (f : jm_P β) : (jm_bd (jm_na t (nI n)) fun q => jm_wr (jm_p (some (n0 + 111)) 9 k (.inr q)) f) (qB n0 t0 (vM n0 t0 fs c) (112 + c) s) = f (qB n0 t0 (vM n0 t0 fs' (c + 1)) (112 + (c + 1)) (s + n)) := by
  subst h1
  subst h2
  subst hf
  rw [bNa ht hn, vM_new, bP ht vM_o hk, vM_set]
  rfl
theorem vM_0 {fs : List jm_V} : va_up (tD n0 t0) 111 (some (.inr (9, fs))) = vM n0 t0 fs 0 := by
  funext a
  by_cases h : a = 111
  · subst h; rw [va_s, vM_o]
  · rw [va_n h]
    unfold vM
    by_cases h1 : a < 111
    · rw [if_pos h1]
    · rw [if_neg h1, if_neg h, if_neg (by omega), tD_o (by omega)]
theorem b_m8 (ht : t0 < n0) : fX8_init (n0 + 111) (qB n0 t0 (va_up (tD n0 t0) 111 (some (.inr (9, [.inl 0, .inr none, .inr none, .inr none, .inr none, .inl 0, .inl 0, .inl 0, .inl 0, .inr none, .inr none, .inr none, .inr none, .inr none, .inr none, .inr none, .inr none, .inr none, .inr none, .inr none, .inl 0, .inr none, .inl 0, .inr none, .inr none, .inl 0, .inr none, .inr none, .inr none])))) 112 544) = (jm_bd (fX8_begins (n0 + 111) 3) fun _ => jm_ret ()) (qB n0 t0 (tM n0 t0) 133 1951) := by
  unfold fX8_init
  rw [bNN, vM_0, bP ht vM_o (by simp), vM_set]
  refine Eq.trans (b_row (c := 0) (n := 5) (fs' := [.inl 3, .inr (some (n0 + 112)), .inr none, .inr none, .inr none, .inl 0, .inl 0, .inl 0, .inl 0, .inr none, .inr none, .inr none, .inr none, .inr none, .inr none, .inr none, .inr none, .inr none, .inr none, .inr none, .inl 0, .inr none, .inl 0, .inr none, .inr none, .inl 0, .inr none, .inr none, .inr none]) ht (by omega) rfl rfl (by simp) rfl _) ?_
  refine Eq.trans (b_row (c := 1) (n := 5) (fs' := [.inl 3, .inr (some (n0 + 112)), .inr (some (n0 + 113)), .inr none, .inr none, .inl 0, .inl 0, .inl 0, .inl 0, .inr none, .inr none, .inr none, .inr none, .inr none, .inr none, .inr none, .inr none, .inr none, .inr none, .inr none, .inl 0, .inr none, .inl 0, .inr none, .inr none, .inl 0, .inr none, .inr none, .inr none]) ht (by omega) rfl rfl (by simp) rfl _) ?_
  refine Eq.trans (b_row (c := 2) (n := 5) (fs' := [.inl 3, .inr (some (n0 + 112)), .inr (some (n0 + 113)), .inr (some (n0 + 114)), .inr none, .inl 0, .inl 0, .inl 0, .inl 0, .inr none, .inr none, .inr none, .inr none, .inr none, .inr none, .inr none, .inr none, .inr none, .inr none, .inr none, .inl 0, .inr none, .inl 0, .inr none, .inr none, .inl 0, .inr none, .inr none, .inr none]) ht (by omega) rfl rfl (by simp) rfl _) ?_
  refine Eq.trans (b_row (c := 3) (n := 5) (fs' := [.inl 3, .inr (some (n0 + 112)), .inr (some (n0 + 113)), .inr (some (n0 + 114)), .inr (some (n0 + 115)), .inl 0, .inl 0, .inl 0, .inl 0, .inr none, .inr none, .inr none, .inr none, .inr none, .inr none, .inr none, .inr none, .inr none, .inr none, .inr none, .inl 0, .inr none, .inl 0, .inr none, .inr none, .inl 0, .inr none, .inr none, .inr none]) ht (by omega) rfl rfl (by simp) rfl _) ?_
  refine Eq.trans (b_row (c := 4) (n := 5) (fs' := [.inl 3, .inr (some (n0 + 112)), .inr (some (n0 + 113)), .inr (some (n0 + 114)), .inr (some (n0 + 115)), .inl 0, .inl 0, .inl 0, .inl 0, .inr (some (n0 + 116)), .inr none, .inr none, .inr none, .inr none, .inr none, .inr none, .inr none, .inr none, .inr none, .inr none, .inl 0, .inr none, .inl 0, .inr none, .inr none, .inl 0, .inr none, .inr none, .inr none]) ht (by omega) rfl rfl (by simp) rfl _) ?_
  refine Eq.trans (b_row (c := 5) (n := 200) (fs' := [.inl 3, .inr (some (n0 + 112)), .inr (some (n0 + 113)), .inr (some (n0 + 114)), .inr (some (n0 + 115)), .inl 0, .inl 0, .inl 0, .inl 0, .inr (some (n0 + 116)), .inr (some (n0 + 117)), .inr none, .inr none, .inr none, .inr none, .inr none, .inr none, .inr none, .inr none, .inr none, .inl 0, .inr none, .inl 0, .inr none, .inr none, .inl 0, .inr none, .inr none, .inr none]) ht (by omega) rfl rfl (by simp) rfl _) ?_
  refine Eq.trans (b_row (c := 6) (n := 200) (fs' := [.inl 3, .inr (some (n0 + 112)), .inr (some (n0 + 113)), .inr (some (n0 + 114)), .inr (some (n0 + 115)), .inl 0, .inl 0, .inl 0, .inl 0, .inr (some (n0 + 116)), .inr (some (n0 + 117)), .inr (some (n0 + 118)), .inr none, .inr none, .inr none, .inr none, .inr none, .inr none, .inr none, .inr none, .inl 0, .inr none, .inl 0, .inr none, .inr none, .inl 0, .inr none, .inr none, .inr none]) ht (by omega) rfl rfl (by simp) rfl _) ?_
  refine Eq.trans (b_row (c := 7) (n := 200) (fs' := [.inl 3, .inr (some (n0 + 112)), .inr (some (n0 + 113)), .inr (some (n0 + 114)), .inr (some (n0 + 115)), .inl 0, .inl 0, .inl 0, .inl 0, .inr (some (n0 + 116)), .inr (some (n0 + 117)), .inr (some (n0 + 118)), .inr (some (n0 + 119)), .inr none, .inr none, .inr none, .inr none, .inr none, .inr none, .inr none, .inl 0, .inr none, .inl 0, .inr none, .inr none, .inl 0, .inr none, .inr none, .inr none]) ht (by omega) rfl rfl (by simp) rfl _) ?_
  refine Eq.trans (b_row (c := 8) (n := 200) (fs' := [.inl 3, .inr (some (n0 + 112)), .inr (some (n0 + 113)), .inr (some (n0 + 114)), .inr (some (n0 + 115)), .inl 0, .inl 0, .inl 0, .inl 0, .inr (some (n0 + 116)), .inr (some (n0 + 117)), .inr (some (n0 + 118)), .inr (some (n0 + 119)), .inr (some (n0 + 120)), .inr none, .inr none, .inr none, .inr none, .inr none, .inr none, .inl 0, .inr none, .inl 0, .inr none, .inr none, .inl 0, .inr none, .inr none, .inr none]) ht (by omega) rfl rfl (by simp) rfl _) ?_
  refine Eq.trans (b_row (c := 9) (n := 200) (fs' := [.inl 3, .inr (some (n0 + 112)), .inr (some (n0 + 113)), .inr (some (n0 + 114)), .inr (some (n0 + 115)), .inl 0, .inl 0, .inl 0, .inl 0, .inr (some (n0 + 116)), .inr (some (n0 + 117)), .inr (some (n0 + 118)), .inr (some (n0 + 119)), .inr (some (n0 + 120)), .inr (some (n0 + 121)), .inr none, .inr none, .inr none, .inr none, .inr none, .inl 0, .inr none, .inl 0, .inr none, .inr none, .inl 0, .inr none, .inr none, .inr none]) ht (by omega) rfl rfl (by simp) rfl _) ?_
  refine Eq.trans (b_row (c := 10) (n := 6) (fs' := [.inl 3, .inr (some (n0 + 112)), .inr (some (n0 + 113)), .inr (some (n0 + 114)), .inr (some (n0 + 115)), .inl 0, .inl 0, .inl 0, .inl 0, .inr (some (n0 + 116)), .inr (some (n0 + 117)), .inr (some (n0 + 118)), .inr (some (n0 + 119)), .inr (some (n0 + 120)), .inr (some (n0 + 121)), .inr (some (n0 + 122)), .inr none, .inr none, .inr none, .inr none, .inl 0, .inr none, .inl 0, .inr none, .inr none, .inl 0, .inr none, .inr none, .inr none]) ht (by omega) rfl rfl (by simp) rfl _) ?_
  refine Eq.trans (b_row (c := 11) (n := 72) (fs' := [.inl 3, .inr (some (n0 + 112)), .inr (some (n0 + 113)), .inr (some (n0 + 114)), .inr (some (n0 + 115)), .inl 0, .inl 0, .inl 0, .inl 0, .inr (some (n0 + 116)), .inr (some (n0 + 117)), .inr (some (n0 + 118)), .inr (some (n0 + 119)), .inr (some (n0 + 120)), .inr (some (n0 + 121)), .inr (some (n0 + 122)), .inr (some (n0 + 123)), .inr none, .inr none, .inr none, .inl 0, .inr none, .inl 0, .inr none, .inr none, .inl 0, .inr none, .inr none, .inr none]) ht (by omega) rfl rfl (by simp) rfl _) ?_
  refine Eq.trans (b_row (c := 12) (n := 72) (fs' := [.inl 3, .inr (some (n0 + 112)), .inr (some (n0 + 113)), .inr (some (n0 + 114)), .inr (some (n0 + 115)), .inl 0, .inl 0, .inl 0, .inl 0, .inr (some (n0 + 116)), .inr (some (n0 + 117)), .inr (some (n0 + 118)), .inr (some (n0 + 119)), .inr (some (n0 + 120)), .inr (some (n0 + 121)), .inr (some (n0 + 122)), .inr (some (n0 + 123)), .inr (some (n0 + 124)), .inr none, .inr none, .inl 0, .inr none, .inl 0, .inr none, .inr none, .inl 0, .inr none, .inr none, .inr none]) ht (by omega) rfl rfl (by simp) rfl _) ?_
  refine Eq.trans (b_row (c := 13) (n := 72) (fs' := [.inl 3, .inr (some (n0 + 112)), .inr (some (n0 + 113)), .inr (some (n0 + 114)), .inr (some (n0 + 115)), .inl 0, .inl 0, .inl 0, .inl 0, .inr (some (n0 + 116)), .inr (some (n0 + 117)), .inr (some (n0 + 118)), .inr (some (n0 + 119)), .inr (some (n0 + 120)), .inr (some (n0 + 121)), .inr (some (n0 + 122)), .inr (some (n0 + 123)), .inr (some (n0 + 124)), .inr (some (n0 + 125)), .inr none, .inl 0, .inr none, .inl 0, .inr none, .inr none, .inl 0, .inr none, .inr none, .inr none]) ht (by omega) rfl rfl (by simp) rfl _) ?_
  refine Eq.trans (b_row (c := 14) (n := 72) (fs' := [.inl 3, .inr (some (n0 + 112)), .inr (some (n0 + 113)), .inr (some (n0 + 114)), .inr (some (n0 + 115)), .inl 0, .inl 0, .inl 0, .inl 0, .inr (some (n0 + 116)), .inr (some (n0 + 117)), .inr (some (n0 + 118)), .inr (some (n0 + 119)), .inr (some (n0 + 120)), .inr (some (n0 + 121)), .inr (some (n0 + 122)), .inr (some (n0 + 123)), .inr (some (n0 + 124)), .inr (some (n0 + 125)), .inr (some (n0 + 126)), .inl 0, .inr none, .inl 0, .inr none, .inr none, .inl 0, .inr none, .inr none, .inr none]) ht (by omega) rfl rfl (by simp) rfl _) ?_
  refine Eq.trans (b_row (c := 15) (n := 4) (fs' := [.inl 3, .inr (some (n0 + 112)), .inr (some (n0 + 113)), .inr (some (n0 + 114)), .inr (some (n0 + 115)), .inl 0, .inl 0, .inl 0, .inl 0, .inr (some (n0 + 116)), .inr (some (n0 + 117)), .inr (some (n0 + 118)), .inr (some (n0 + 119)), .inr (some (n0 + 120)), .inr (some (n0 + 121)), .inr (some (n0 + 122)), .inr (some (n0 + 123)), .inr (some (n0 + 124)), .inr (some (n0 + 125)), .inr (some (n0 + 126)), .inl 0, .inr (some (n0 + 127)), .inl 0, .inr none, .inr none, .inl 0, .inr none, .inr none, .inr none]) ht (by omega) rfl rfl (by simp) rfl _) ?_
  refine Eq.trans (b_row (c := 16) (n := 6) (fs' := [.inl 3, .inr (some (n0 + 112)), .inr (some (n0 + 113)), .inr (some (n0 + 114)), .inr (some (n0 + 115)), .inl 0, .inl 0, .inl 0, .inl 0, .inr (some (n0 + 116)), .inr (some (n0 + 117)), .inr (some (n0 + 118)), .inr (some (n0 + 119)), .inr (some (n0 + 120)), .inr (some (n0 + 121)), .inr (some (n0 + 122)), .inr (some (n0 + 123)), .inr (some (n0 + 124)), .inr (some (n0 + 125)), .inr (some (n0 + 126)), .inl 0, .inr (some (n0 + 127)), .inl 0, .inr (some (n0 + 128)), .inr none, .inl 0, .inr none, .inr none, .inr none]) ht (by omega) rfl rfl (by simp) rfl _) ?_
  refine Eq.trans (b_row (c := 17) (n := 48) (fs' := [.inl 3, .inr (some (n0 + 112)), .inr (some (n0 + 113)), .inr (some (n0 + 114)), .inr (some (n0 + 115)), .inl 0, .inl 0, .inl 0, .inl 0, .inr (some (n0 + 116)), .inr (some (n0 + 117)), .inr (some (n0 + 118)), .inr (some (n0 + 119)), .inr (some (n0 + 120)), .inr (some (n0 + 121)), .inr (some (n0 + 122)), .inr (some (n0 + 123)), .inr (some (n0 + 124)), .inr (some (n0 + 125)), .inr (some (n0 + 126)), .inl 0, .inr (some (n0 + 127)), .inl 0, .inr (some (n0 + 128)), .inr (some (n0 + 129)), .inl 0, .inr none, .inr none, .inr none]) ht (by omega) rfl rfl (by simp) rfl _) ?_
  refine Eq.trans (b_row (c := 18) (n := 10) (fs' := [.inl 3, .inr (some (n0 + 112)), .inr (some (n0 + 113)), .inr (some (n0 + 114)), .inr (some (n0 + 115)), .inl 0, .inl 0, .inl 0, .inl 0, .inr (some (n0 + 116)), .inr (some (n0 + 117)), .inr (some (n0 + 118)), .inr (some (n0 + 119)), .inr (some (n0 + 120)), .inr (some (n0 + 121)), .inr (some (n0 + 122)), .inr (some (n0 + 123)), .inr (some (n0 + 124)), .inr (some (n0 + 125)), .inr (some (n0 + 126)), .inl 0, .inr (some (n0 + 127)), .inl 0, .inr (some (n0 + 128)), .inr (some (n0 + 129)), .inl 0, .inr (some (n0 + 130)), .inr none, .inr none]) ht (by omega) rfl rfl (by simp) rfl _) ?_
  refine Eq.trans (b_row (c := 19) (n := 10) (fs' := [.inl 3, .inr (some (n0 + 112)), .inr (some (n0 + 113)), .inr (some (n0 + 114)), .inr (some (n0 + 115)), .inl 0, .inl 0, .inl 0, .inl 0, .inr (some (n0 + 116)), .inr (some (n0 + 117)), .inr (some (n0 + 118)), .inr (some (n0 + 119)), .inr (some (n0 + 120)), .inr (some (n0 + 121)), .inr (some (n0 + 122)), .inr (some (n0 + 123)), .inr (some (n0 + 124)), .inr (some (n0 + 125)), .inr (some (n0 + 126)), .inl 0, .inr (some (n0 + 127)), .inl 0, .inr (some (n0 + 128)), .inr (some (n0 + 129)), .inl 0, .inr (some (n0 + 130)), .inr (some (n0 + 131)), .inr none]) ht (by omega) rfl rfl (by simp) rfl _) ?_
  refine Eq.trans (b_row (c := 20) (n := 10) (fs' := [.inl 3, .inr (some (n0 + 112)), .inr (some (n0 + 113)), .inr (some (n0 + 114)), .inr (some (n0 + 115)), .inl 0, .inl 0, .inl 0, .inl 0, .inr (some (n0 + 116)), .inr (some (n0 + 117)), .inr (some (n0 + 118)), .inr (some (n0 + 119)), .inr (some (n0 + 120)), .inr (some (n0 + 121)), .inr (some (n0 + 122)), .inr (some (n0 + 123)), .inr (some (n0 + 124)), .inr (some (n0 + 125)), .inr (some (n0 + 126)), .inl 0, .inr (some (n0 + 127)), .inl 0, .inr (some (n0 + 128)), .inr (some (n0 + 129)), .inl 0, .inr (some (n0 + 130)), .inr (some (n0 + 131)), .inr (some (n0 + 132))]) ht (by omega) rfl rfl (by simp) rfl _) ?_
  rw [bO ht vM_o]
  rfl
end BM
