theorem jm_out28 {x : Int32} (h0 : ¬ x = 0) (h1 : ¬ x = 1) (h2 : ¬ x = 2) (h3 : ¬ x = 3) (h4 : ¬ x = 4) (h5 : ¬ x = 5) (h6 : ¬ x = 6) (h7 : ¬ x = 7) (h8 : ¬ x = 8) (h9 : ¬ x = 9) (h10 : ¬ x = 10) (h11 : ¬ x = 11) (h12 : ¬ x = 12) (h13 : ¬ x = 13) (h14 : ¬ x = 14) (h15 : ¬ x = 15) (h16 : ¬ x = 16) (h17 : ¬ x = 17) (h18 : ¬ x = 18) (h19 : ¬ x = 19) (h20 : ¬ x = 20) (h21 : ¬ x = 21) (h22 : ¬ x = 22) (h23 : ¬ x = 23) (h24 : ¬ x = 24) (h25 : ¬ x = 25) (h26 : ¬ x = 26) (h27 : ¬ x = 27) : x.toInt < 0 ∨ 27 < x.toInt := by
  have g0 : ¬ x.toInt = 0 := lv_neT h0 rfl
  have g1 : ¬ x.toInt = 1 := lv_neT h1 rfl
  have g2 : ¬ x.toInt = 2 := lv_neT h2 rfl
  have g3 : ¬ x.toInt = 3 := lv_neT h3 rfl
  have g4 : ¬ x.toInt = 4 := lv_neT h4 rfl
  have g5 : ¬ x.toInt = 5 := lv_neT h5 rfl
  have g6 : ¬ x.toInt = 6 := lv_neT h6 rfl
  have g7 : ¬ x.toInt = 7 := lv_neT h7 rfl
  have g8 : ¬ x.toInt = 8 := lv_neT h8 rfl
  have g9 : ¬ x.toInt = 9 := lv_neT h9 rfl
  have g10 : ¬ x.toInt = 10 := lv_neT h10 rfl
  have g11 : ¬ x.toInt = 11 := lv_neT h11 rfl
  have g12 : ¬ x.toInt = 12 := lv_neT h12 rfl
  have g13 : ¬ x.toInt = 13 := lv_neT h13 rfl
  have g14 : ¬ x.toInt = 14 := lv_neT h14 rfl
  have g15 : ¬ x.toInt = 15 := lv_neT h15 rfl
  have g16 : ¬ x.toInt = 16 := lv_neT h16 rfl
  have g17 : ¬ x.toInt = 17 := lv_neT h17 rfl
  have g18 : ¬ x.toInt = 18 := lv_neT h18 rfl
  have g19 : ¬ x.toInt = 19 := lv_neT h19 rfl
  have g20 : ¬ x.toInt = 20 := lv_neT h20 rfl
  have g21 : ¬ x.toInt = 21 := lv_neT h21 rfl
  have g22 : ¬ x.toInt = 22 := lv_neT h22 rfl
  have g23 : ¬ x.toInt = 23 := lv_neT h23 rfl
  have g24 : ¬ x.toInt = 24 := lv_neT h24 rfl
  have g25 : ¬ x.toInt = 25 := lv_neT h25 rfl
  have g26 : ¬ x.toInt = 26 := lv_neT h26 rfl
  have g27 : ¬ x.toInt = 27 := lv_neT h27 rfl
  omega
section JG
variable {p : Program} {l : Launch} {e : Env} {s : State} {m : MethodId} {args : Array Value} {below : List Frame} {meth : Method} {c : Code} {G : jm_G}
def fL_law_18 (L : Nat) (xs : Nat → Int32) : Nat → Option Nat → Option Nat → Int32 → jm_P Int32
  | 0, _, _, _ => jm_no
  | n + 1, x1, x2, x3 => (if ((Int32.ofNat L) - 3) < x3 then jm_rd (jm_z 1) fun _ => jm_ret 1 else jm_rd (jm_inL x3 L) fun _ => (if ((xs (x3 : Int32).toNatClampNeg) &&& 31) = 0 then jm_rd (jm_inL (x3 + 1) L) fun _ => jm_rd (jm_o x1 8) fun a11 => jm_bd (fX7_reset a11 (xs ((x3 + 1) : Int32).toNatClampNeg)) fun v11 => jm_rd (jm_inL (x3 + 1) L) fun _ => jm_rd (jm_o x2 9) fun a13 => jm_bd (fX8_reset a13 (xs ((x3 + 1) : Int32).toNatClampNeg)) fun v13 => (if v11 = v13 then fL_law_18 L xs n x1 x2 (x3 + 3) else jm_rd (jm_z 0) fun _ => jm_ret 0) else (if ((xs (x3 : Int32).toNatClampNeg) &&& 31) = 1 then jm_rd (jm_inL (x3 + 1) L) fun _ => jm_rd (jm_o x1 8) fun a17 => jm_bd (fX7_crash a17 (xs ((x3 + 1) : Int32).toNatClampNeg)) fun v17 => jm_rd (jm_inL (x3 + 1) L) fun _ => jm_rd (jm_o x2 9) fun a19 => jm_bd (fX8_crash a19 (xs ((x3 + 1) : Int32).toNatClampNeg)) fun v19 => (if v17 = v19 then fL_law_18 L xs n x1 x2 (x3 + 3) else jm_rd (jm_z 0) fun _ => jm_ret 0) else (if ((xs (x3 : Int32).toNatClampNeg) &&& 31) = 2 then jm_rd (jm_inL (x3 + 1) L) fun _ => jm_rd (jm_o x1 8) fun a23 => jm_bd (fX7_restart a23 (xs ((x3 + 1) : Int32).toNatClampNeg)) fun v23 => jm_rd (jm_inL (x3 + 1) L) fun _ => jm_rd (jm_o x2 9) fun a25 => jm_bd (fX8_restart a25 (xs ((x3 + 1) : Int32).toNatClampNeg)) fun v25 => (if v23 = v25 then fL_law_18 L xs n x1 x2 (x3 + 3) else jm_rd (jm_z 0) fun _ => jm_ret 0) else (if ((xs (x3 : Int32).toNatClampNeg) &&& 31) = 3 then jm_rd (jm_o x1 8) fun a28 => jm_bd (fX7_elect a28) fun v28 => jm_rd (jm_o x2 9) fun a29 => jm_bd (fX8_elect a29) fun v29 => (if v28 = v29 then fL_law_18 L xs n x1 x2 (x3 + 3) else jm_rd (jm_z 0) fun _ => jm_ret 0) else (if ((xs (x3 : Int32).toNatClampNeg) &&& 31) = 4 then jm_rd (jm_inL (x3 + 1) L) fun _ => jm_rd (jm_o x1 8) fun a33 => jm_bd (fX7_synchronize a33 (xs ((x3 + 1) : Int32).toNatClampNeg)) fun v33 => jm_rd (jm_inL (x3 + 1) L) fun _ => jm_rd (jm_o x2 9) fun a35 => jm_bd (fX8_synchronize a35 (xs ((x3 + 1) : Int32).toNatClampNeg)) fun v35 => (if v33 = v35 then fL_law_18 L xs n x1 x2 (x3 + 3) else jm_rd (jm_z 0) fun _ => jm_ret 0) else (if ((xs (x3 : Int32).toNatClampNeg) &&& 31) = 5 then jm_rd (jm_inL (x3 + 1) L) fun _ => jm_rd (jm_o x1 8) fun a39 => jm_bd (fX7_accept a39 (xs ((x3 + 1) : Int32).toNatClampNeg)) fun v39 => jm_rd (jm_inL (x3 + 1) L) fun _ => jm_rd (jm_o x2 9) fun a41 => jm_bd (fX8_accept a41 (xs ((x3 + 1) : Int32).toNatClampNeg)) fun v41 => (if v39 = v41 then fL_law_18 L xs n x1 x2 (x3 + 3) else jm_rd (jm_z 0) fun _ => jm_ret 0) else (if ((xs (x3 : Int32).toNatClampNeg) &&& 31) = 6 then jm_rd (jm_inL (x3 + 1) L) fun _ => jm_rd (jm_o x1 8) fun a45 => jm_bd (fX7_heartbeat a45 (xs ((x3 + 1) : Int32).toNatClampNeg)) fun v45 => jm_rd (jm_inL (x3 + 1) L) fun _ => jm_rd (jm_o x2 9) fun a47 => jm_bd (fX8_heartbeat a47 (xs ((x3 + 1) : Int32).toNatClampNeg)) fun v47 => (if v45 = v47 then fL_law_18 L xs n x1 x2 (x3 + 3) else jm_rd (jm_z 0) fun _ => jm_ret 0) else (if ((xs (x3 : Int32).toNatClampNeg) &&& 31) = 7 then jm_rd (jm_o x1 8) fun a50 => jm_bd (fX7_leader a50) fun v50 => jm_rd (jm_o x2 9) fun a51 => jm_bd (fX8_leader a51) fun v51 => (if v50 = v51 then fL_law_18 L xs n x1 x2 (x3 + 3) else jm_rd (jm_z 0) fun _ => jm_ret 0) else (if ((xs (x3 : Int32).toNatClampNeg) &&& 31) = 8 then jm_rd (jm_inL (x3 + 1) L) fun _ => jm_rd (jm_o x1 8) fun a55 => jm_bd (fX7_lastIdentifier a55 (xs ((x3 + 1) : Int32).toNatClampNeg)) fun v55 => jm_rd (jm_inL (x3 + 1) L) fun _ => jm_rd (jm_o x2 9) fun a57 => jm_bd (fX8_lastIdentifier a57 (xs ((x3 + 1) : Int32).toNatClampNeg)) fun v57 => (if v55 = v57 then fL_law_18 L xs n x1 x2 (x3 + 3) else jm_rd (jm_z 0) fun _ => jm_ret 0) else (if ((xs (x3 : Int32).toNatClampNeg) &&& 31) = 9 then jm_rd (jm_inL (x3 + 1) L) fun _ => jm_rd (jm_o x1 8) fun a61 => jm_bd (fX7_appliedCount a61 (xs ((x3 + 1) : Int32).toNatClampNeg)) fun v61 => jm_rd (jm_inL (x3 + 1) L) fun _ => jm_rd (jm_o x2 9) fun a63 => jm_bd (fX8_appliedCount a63 (xs ((x3 + 1) : Int32).toNatClampNeg)) fun v63 => (if v61 = v63 then fL_law_18 L xs n x1 x2 (x3 + 3) else jm_rd (jm_z 0) fun _ => jm_ret 0) else (if ((xs (x3 : Int32).toNatClampNeg) &&& 31) = 10 then jm_rd (jm_o x1 8) fun a66 => jm_bd (fX7_committedCount a66) fun v66 => jm_rd (jm_o x2 9) fun a67 => jm_bd (fX8_committedCount a67) fun v67 => (if v66 = v67 then fL_law_18 L xs n x1 x2 (x3 + 3) else jm_rd (jm_z 0) fun _ => jm_ret 0) else (if ((xs (x3 : Int32).toNatClampNeg) &&& 31) = 11 then jm_rd (jm_inL (x3 + 1) L) fun _ => jm_rd (jm_o x1 8) fun a71 => jm_bd (fX7_acceptedEpoch a71 (xs ((x3 + 1) : Int32).toNatClampNeg)) fun v71 => jm_rd (jm_inL (x3 + 1) L) fun _ => jm_rd (jm_o x2 9) fun a73 => jm_bd (fX8_acceptedEpoch a73 (xs ((x3 + 1) : Int32).toNatClampNeg)) fun v73 => (if v71 = v73 then fL_law_18 L xs n x1 x2 (x3 + 3) else jm_rd (jm_z 0) fun _ => jm_ret 0) else (if ((xs (x3 : Int32).toNatClampNeg) &&& 31) = 12 then jm_rd (jm_inL (x3 + 1) L) fun _ => jm_rd (jm_o x1 8) fun a77 => jm_bd (fX7_appendName a77 (xs ((x3 + 1) : Int32).toNatClampNeg)) fun v77 => jm_rd (jm_inL (x3 + 1) L) fun _ => jm_rd (jm_o x2 9) fun a79 => jm_bd (fX8_appendName a79 (xs ((x3 + 1) : Int32).toNatClampNeg)) fun v79 => (if v77 = v79 then fL_law_18 L xs n x1 x2 (x3 + 3) else jm_rd (jm_z 0) fun _ => jm_ret 0) else (if ((xs (x3 : Int32).toNatClampNeg) &&& 31) = 13 then jm_rd (jm_o x1 8) fun a82 => jm_bd (fX7_clearPath a82) fun v82 => jm_rd (jm_o x2 9) fun a83 => jm_bd (fX8_clearPath a83) fun v83 => (if v82 = v83 then fL_law_18 L xs n x1 x2 (x3 + 3) else jm_rd (jm_z 0) fun _ => jm_ret 0) else (if ((xs (x3 : Int32).toNatClampNeg) &&& 31) = 14 then jm_rd (jm_inL (x3 + 1) L) fun _ => jm_rd (jm_inL (x3 + 2) L) fun _ => jm_rd (jm_o x1 8) fun a88 => jm_bd (fX7_create a88 (xs ((x3 + 1) : Int32).toNatClampNeg) (xs ((x3 + 2) : Int32).toNatClampNeg)) fun v88 => jm_rd (jm_inL (x3 + 1) L) fun _ => jm_rd (jm_inL (x3 + 2) L) fun _ => jm_rd (jm_o x2 9) fun a91 => jm_bd (fX8_create a91 (xs ((x3 + 1) : Int32).toNatClampNeg) (xs ((x3 + 2) : Int32).toNatClampNeg)) fun v91 => (if v88 = v91 then fL_law_18 L xs n x1 x2 (x3 + 3) else jm_rd (jm_z 0) fun _ => jm_ret 0) else (if ((xs (x3 : Int32).toNatClampNeg) &&& 31) = 15 then jm_rd (jm_inL (x3 + 1) L) fun _ => jm_rd (jm_inL (x3 + 2) L) fun _ => jm_rd (jm_o x1 8) fun a96 => jm_bd (fX7_setData a96 (xs ((x3 + 1) : Int32).toNatClampNeg) (xs ((x3 + 2) : Int32).toNatClampNeg)) fun v96 => jm_rd (jm_inL (x3 + 1) L) fun _ => jm_rd (jm_inL (x3 + 2) L) fun _ => jm_rd (jm_o x2 9) fun a99 => jm_bd (fX8_setData a99 (xs ((x3 + 1) : Int32).toNatClampNeg) (xs ((x3 + 2) : Int32).toNatClampNeg)) fun v99 => (if v96 = v99 then fL_law_18 L xs n x1 x2 (x3 + 3) else jm_rd (jm_z 0) fun _ => jm_ret 0) else (if ((xs (x3 : Int32).toNatClampNeg) &&& 31) = 16 then jm_rd (jm_inL (x3 + 1) L) fun _ => jm_rd (jm_o x1 8) fun a103 => jm_bd (fX7_delete a103 (xs ((x3 + 1) : Int32).toNatClampNeg)) fun v103 => jm_rd (jm_inL (x3 + 1) L) fun _ => jm_rd (jm_o x2 9) fun a105 => jm_bd (fX8_delete a105 (xs ((x3 + 1) : Int32).toNatClampNeg)) fun v105 => (if v103 = v105 then fL_law_18 L xs n x1 x2 (x3 + 3) else jm_rd (jm_z 0) fun _ => jm_ret 0) else (if ((xs (x3 : Int32).toNatClampNeg) &&& 31) = 17 then jm_rd (jm_o x1 8) fun a108 => jm_bd (fX7_openSession a108) fun v108 => jm_rd (jm_o x2 9) fun a109 => jm_bd (fX8_openSession a109) fun v109 => (if v108 = v109 then fL_law_18 L xs n x1 x2 (x3 + 3) else jm_rd (jm_z 0) fun _ => jm_ret 0) else (if ((xs (x3 : Int32).toNatClampNeg) &&& 31) = 18 then jm_rd (jm_inL (x3 + 1) L) fun _ => jm_rd (jm_o x1 8) fun a113 => jm_bd (fX7_closeSession a113 (xs ((x3 + 1) : Int32).toNatClampNeg)) fun v113 => jm_rd (jm_inL (x3 + 1) L) fun _ => jm_rd (jm_o x2 9) fun a115 => jm_bd (fX8_closeSession a115 (xs ((x3 + 1) : Int32).toNatClampNeg)) fun v115 => (if v113 = v115 then fL_law_18 L xs n x1 x2 (x3 + 3) else jm_rd (jm_z 0) fun _ => jm_ret 0) else (if ((xs (x3 : Int32).toNatClampNeg) &&& 31) = 19 then jm_rd (jm_inL (x3 + 1) L) fun _ => jm_rd (jm_inL (x3 + 2) L) fun _ => jm_rd (jm_o x1 8) fun a120 => jm_bd (fX7_watch a120 (xs ((x3 + 1) : Int32).toNatClampNeg) (xs ((x3 + 2) : Int32).toNatClampNeg)) fun v120 => jm_rd (jm_inL (x3 + 1) L) fun _ => jm_rd (jm_inL (x3 + 2) L) fun _ => jm_rd (jm_o x2 9) fun a123 => jm_bd (fX8_watch a123 (xs ((x3 + 1) : Int32).toNatClampNeg) (xs ((x3 + 2) : Int32).toNatClampNeg)) fun v123 => (if v120 = v123 then fL_law_18 L xs n x1 x2 (x3 + 3) else jm_rd (jm_z 0) fun _ => jm_ret 0) else (if ((xs (x3 : Int32).toNatClampNeg) &&& 31) = 20 then jm_rd (jm_inL (x3 + 1) L) fun _ => jm_rd (jm_o x1 8) fun a127 => jm_bd (fX7_eventCount a127 (xs ((x3 + 1) : Int32).toNatClampNeg)) fun v127 => jm_rd (jm_inL (x3 + 1) L) fun _ => jm_rd (jm_o x2 9) fun a129 => jm_bd (fX8_eventCount a129 (xs ((x3 + 1) : Int32).toNatClampNeg)) fun v129 => (if v127 = v129 then fL_law_18 L xs n x1 x2 (x3 + 3) else jm_rd (jm_z 0) fun _ => jm_ret 0) else (if ((xs (x3 : Int32).toNatClampNeg) &&& 31) = 21 then jm_rd (jm_inL (x3 + 1) L) fun _ => jm_rd (jm_inL (x3 + 2) L) fun _ => jm_rd (jm_o x1 8) fun a134 => jm_bd (fX7_eventAt a134 (xs ((x3 + 1) : Int32).toNatClampNeg) (xs ((x3 + 2) : Int32).toNatClampNeg)) fun v134 => jm_rd (jm_inL (x3 + 1) L) fun _ => jm_rd (jm_inL (x3 + 2) L) fun _ => jm_rd (jm_o x2 9) fun a137 => jm_bd (fX8_eventAt a137 (xs ((x3 + 1) : Int32).toNatClampNeg) (xs ((x3 + 2) : Int32).toNatClampNeg)) fun v137 => (if v134 = v137 then fL_law_18 L xs n x1 x2 (x3 + 3) else jm_rd (jm_z 0) fun _ => jm_ret 0) else (if ((xs (x3 : Int32).toNatClampNeg) &&& 31) = 22 then jm_rd (jm_inL (x3 + 1) L) fun _ => jm_rd (jm_o x1 8) fun a141 => jm_bd (fX7_dataAt a141 (xs ((x3 + 1) : Int32).toNatClampNeg)) fun v141 => jm_rd (jm_inL (x3 + 1) L) fun _ => jm_rd (jm_o x2 9) fun a143 => jm_bd (fX8_dataAt a143 (xs ((x3 + 1) : Int32).toNatClampNeg)) fun v143 => (if v141 = v143 then fL_law_18 L xs n x1 x2 (x3 + 3) else jm_rd (jm_z 0) fun _ => jm_ret 0) else (if ((xs (x3 : Int32).toNatClampNeg) &&& 31) = 23 then jm_rd (jm_inL (x3 + 1) L) fun _ => jm_rd (jm_o x1 8) fun a147 => jm_bd (fX7_versionAt a147 (xs ((x3 + 1) : Int32).toNatClampNeg)) fun v147 => jm_rd (jm_inL (x3 + 1) L) fun _ => jm_rd (jm_o x2 9) fun a149 => jm_bd (fX8_versionAt a149 (xs ((x3 + 1) : Int32).toNatClampNeg)) fun v149 => (if v147 = v149 then fL_law_18 L xs n x1 x2 (x3 + 3) else jm_rd (jm_z 0) fun _ => jm_ret 0) else (if ((xs (x3 : Int32).toNatClampNeg) &&& 31) = 24 then jm_rd (jm_inL (x3 + 1) L) fun _ => jm_rd (jm_o x1 8) fun a153 => jm_bd (fX7_ownerAt a153 (xs ((x3 + 1) : Int32).toNatClampNeg)) fun v153 => jm_rd (jm_inL (x3 + 1) L) fun _ => jm_rd (jm_o x2 9) fun a155 => jm_bd (fX8_ownerAt a155 (xs ((x3 + 1) : Int32).toNatClampNeg)) fun v155 => (if v153 = v155 then fL_law_18 L xs n x1 x2 (x3 + 3) else jm_rd (jm_z 0) fun _ => jm_ret 0) else (if ((xs (x3 : Int32).toNatClampNeg) &&& 31) = 25 then jm_rd (jm_inL (x3 + 1) L) fun _ => jm_rd (jm_o x1 8) fun a159 => jm_bd (fX7_childCount a159 (xs ((x3 + 1) : Int32).toNatClampNeg)) fun v159 => jm_rd (jm_inL (x3 + 1) L) fun _ => jm_rd (jm_o x2 9) fun a161 => jm_bd (fX8_childCount a161 (xs ((x3 + 1) : Int32).toNatClampNeg)) fun v161 => (if v159 = v161 then fL_law_18 L xs n x1 x2 (x3 + 3) else jm_rd (jm_z 0) fun _ => jm_ret 0) else (if ((xs (x3 : Int32).toNatClampNeg) &&& 31) = 26 then jm_rd (jm_inL (x3 + 1) L) fun _ => jm_rd (jm_o x1 8) fun a165 => jm_bd (fX7_nodeCount a165 (xs ((x3 + 1) : Int32).toNatClampNeg)) fun v165 => jm_rd (jm_inL (x3 + 1) L) fun _ => jm_rd (jm_o x2 9) fun a167 => jm_bd (fX8_nodeCount a167 (xs ((x3 + 1) : Int32).toNatClampNeg)) fun v167 => (if v165 = v167 then fL_law_18 L xs n x1 x2 (x3 + 3) else jm_rd (jm_z 0) fun _ => jm_ret 0) else (if ((xs (x3 : Int32).toNatClampNeg) &&& 31) = 27 then jm_rd (jm_inL (x3 + 1) L) fun _ => jm_rd (jm_inL (x3 + 2) L) fun _ => jm_rd (jm_o x1 8) fun a172 => jm_bd (fX7_commonLog a172 (xs ((x3 + 1) : Int32).toNatClampNeg) (xs ((x3 + 2) : Int32).toNatClampNeg)) fun v172 => jm_rd (jm_inL (x3 + 1) L) fun _ => jm_rd (jm_inL (x3 + 2) L) fun _ => jm_rd (jm_o x2 9) fun a175 => jm_bd (fX8_commonLog a175 (xs ((x3 + 1) : Int32).toNatClampNeg) (xs ((x3 + 2) : Int32).toNatClampNeg)) fun v175 => (if v172 = v175 then fL_law_18 L xs n x1 x2 (x3 + 3) else jm_rd (jm_z 0) fun _ => jm_ret 0) else fL_law_18 L xs n x1 x2 (x3 + 3))))))))))))))))))))))))))))))
def fL_law (L : Nat) (xs : Nat → Int32) : jm_P Int32 := jm_bd (jm_new 8 [.inr none, .inr none, .inr none, .inr none, .inl 0, .inl 0, .inr none, .inl 0, .inl 0, .inl 0, .inl 0, .inl 0]) fun q1 => jm_bd (fX7_init q1) fun _ => jm_bd (jm_new 9 [.inl 0, .inr none, .inr none, .inr none, .inr none, .inl 0, .inl 0, .inl 0, .inl 0, .inr none, .inr none, .inr none, .inr none, .inr none, .inr none, .inr none, .inr none, .inr none, .inr none, .inr none, .inl 0, .inr none, .inl 0, .inr none, .inr none, .inl 0, .inr none, .inr none, .inr none]) fun q3 => jm_bd (fX8_init q3) fun _ => fL_law_18 L xs 4096 (some q1) (some q3) 0
theorem moL_law_18 (L : Nat) (xs : Nat → Int32) : ∀ (n : Nat) (x1 : Option Nat) (x2 : Option Nat) (x3 : Int32), jm_Mo (fL_law_18 L xs n x1 x2 x3) := by
  intro n
  induction n with
  | zero =>
    intro x1 x2 x3
    rw [fL_law_18]
    exact jm_Mo_no
  | succ n ih =>
    intro x1 x2 x3
    rw [fL_law_18]
    exact jm_Mo_if (jm_Mo_rd (fun _ => jm_Mo_ret _)) (jm_Mo_rd (fun _ => jm_Mo_if (jm_Mo_rd (fun _ => jm_Mo_rd (fun _ => jm_Mo_bd (moX7_reset _ _) (fun _ => jm_Mo_rd (fun _ => jm_Mo_rd (fun _ => jm_Mo_bd (moX8_reset _ _) (fun _ => jm_Mo_if (ih _ _ _) (jm_Mo_rd (fun _ => jm_Mo_ret _))))))))) (jm_Mo_if (jm_Mo_rd (fun _ => jm_Mo_rd (fun _ => jm_Mo_bd (moX7_crash _ _) (fun _ => jm_Mo_rd (fun _ => jm_Mo_rd (fun _ => jm_Mo_bd (moX8_crash _ _) (fun _ => jm_Mo_if (ih _ _ _) (jm_Mo_rd (fun _ => jm_Mo_ret _))))))))) (jm_Mo_if (jm_Mo_rd (fun _ => jm_Mo_rd (fun _ => jm_Mo_bd (moX7_restart _ _) (fun _ => jm_Mo_rd (fun _ => jm_Mo_rd (fun _ => jm_Mo_bd (moX8_restart _ _) (fun _ => jm_Mo_if (ih _ _ _) (jm_Mo_rd (fun _ => jm_Mo_ret _))))))))) (jm_Mo_if (jm_Mo_rd (fun _ => jm_Mo_bd (moX7_elect _) (fun _ => jm_Mo_rd (fun _ => jm_Mo_bd (moX8_elect _) (fun _ => jm_Mo_if (ih _ _ _) (jm_Mo_rd (fun _ => jm_Mo_ret _))))))) (jm_Mo_if (jm_Mo_rd (fun _ => jm_Mo_rd (fun _ => jm_Mo_bd (moX7_synchronize _ _) (fun _ => jm_Mo_rd (fun _ => jm_Mo_rd (fun _ => jm_Mo_bd (moX8_synchronize _ _) (fun _ => jm_Mo_if (ih _ _ _) (jm_Mo_rd (fun _ => jm_Mo_ret _))))))))) (jm_Mo_if (jm_Mo_rd (fun _ => jm_Mo_rd (fun _ => jm_Mo_bd (moX7_accept _ _) (fun _ => jm_Mo_rd (fun _ => jm_Mo_rd (fun _ => jm_Mo_bd (moX8_accept _ _) (fun _ => jm_Mo_if (ih _ _ _) (jm_Mo_rd (fun _ => jm_Mo_ret _))))))))) (jm_Mo_if (jm_Mo_rd (fun _ => jm_Mo_rd (fun _ => jm_Mo_bd (moX7_heartbeat _ _) (fun _ => jm_Mo_rd (fun _ => jm_Mo_rd (fun _ => jm_Mo_bd (moX8_heartbeat _ _) (fun _ => jm_Mo_if (ih _ _ _) (jm_Mo_rd (fun _ => jm_Mo_ret _))))))))) (jm_Mo_if (jm_Mo_rd (fun _ => jm_Mo_bd (moX7_leader _) (fun _ => jm_Mo_rd (fun _ => jm_Mo_bd (moX8_leader _) (fun _ => jm_Mo_if (ih _ _ _) (jm_Mo_rd (fun _ => jm_Mo_ret _))))))) (jm_Mo_if (jm_Mo_rd (fun _ => jm_Mo_rd (fun _ => jm_Mo_bd (moX7_lastIdentifier _ _) (fun _ => jm_Mo_rd (fun _ => jm_Mo_rd (fun _ => jm_Mo_bd (moX8_lastIdentifier _ _) (fun _ => jm_Mo_if (ih _ _ _) (jm_Mo_rd (fun _ => jm_Mo_ret _))))))))) (jm_Mo_if (jm_Mo_rd (fun _ => jm_Mo_rd (fun _ => jm_Mo_bd (moX7_appliedCount _ _) (fun _ => jm_Mo_rd (fun _ => jm_Mo_rd (fun _ => jm_Mo_bd (moX8_appliedCount _ _) (fun _ => jm_Mo_if (ih _ _ _) (jm_Mo_rd (fun _ => jm_Mo_ret _))))))))) (jm_Mo_if (jm_Mo_rd (fun _ => jm_Mo_bd (moX7_committedCount _) (fun _ => jm_Mo_rd (fun _ => jm_Mo_bd (moX8_committedCount _) (fun _ => jm_Mo_if (ih _ _ _) (jm_Mo_rd (fun _ => jm_Mo_ret _))))))) (jm_Mo_if (jm_Mo_rd (fun _ => jm_Mo_rd (fun _ => jm_Mo_bd (moX7_acceptedEpoch _ _) (fun _ => jm_Mo_rd (fun _ => jm_Mo_rd (fun _ => jm_Mo_bd (moX8_acceptedEpoch _ _) (fun _ => jm_Mo_if (ih _ _ _) (jm_Mo_rd (fun _ => jm_Mo_ret _))))))))) (jm_Mo_if (jm_Mo_rd (fun _ => jm_Mo_rd (fun _ => jm_Mo_bd (moX7_appendName _ _) (fun _ => jm_Mo_rd (fun _ => jm_Mo_rd (fun _ => jm_Mo_bd (moX8_appendName _ _) (fun _ => jm_Mo_if (ih _ _ _) (jm_Mo_rd (fun _ => jm_Mo_ret _))))))))) (jm_Mo_if (jm_Mo_rd (fun _ => jm_Mo_bd (moX7_clearPath _) (fun _ => jm_Mo_rd (fun _ => jm_Mo_bd (moX8_clearPath _) (fun _ => jm_Mo_if (ih _ _ _) (jm_Mo_rd (fun _ => jm_Mo_ret _))))))) (jm_Mo_if (jm_Mo_rd (fun _ => jm_Mo_rd (fun _ => jm_Mo_rd (fun _ => jm_Mo_bd (moX7_create _ _ _) (fun _ => jm_Mo_rd (fun _ => jm_Mo_rd (fun _ => jm_Mo_rd (fun _ => jm_Mo_bd (moX8_create _ _ _) (fun _ => jm_Mo_if (ih _ _ _) (jm_Mo_rd (fun _ => jm_Mo_ret _))))))))))) (jm_Mo_if (jm_Mo_rd (fun _ => jm_Mo_rd (fun _ => jm_Mo_rd (fun _ => jm_Mo_bd (moX7_setData _ _ _) (fun _ => jm_Mo_rd (fun _ => jm_Mo_rd (fun _ => jm_Mo_rd (fun _ => jm_Mo_bd (moX8_setData _ _ _) (fun _ => jm_Mo_if (ih _ _ _) (jm_Mo_rd (fun _ => jm_Mo_ret _))))))))))) (jm_Mo_if (jm_Mo_rd (fun _ => jm_Mo_rd (fun _ => jm_Mo_bd (moX7_delete _ _) (fun _ => jm_Mo_rd (fun _ => jm_Mo_rd (fun _ => jm_Mo_bd (moX8_delete _ _) (fun _ => jm_Mo_if (ih _ _ _) (jm_Mo_rd (fun _ => jm_Mo_ret _))))))))) (jm_Mo_if (jm_Mo_rd (fun _ => jm_Mo_bd (moX7_openSession _) (fun _ => jm_Mo_rd (fun _ => jm_Mo_bd (moX8_openSession _) (fun _ => jm_Mo_if (ih _ _ _) (jm_Mo_rd (fun _ => jm_Mo_ret _))))))) (jm_Mo_if (jm_Mo_rd (fun _ => jm_Mo_rd (fun _ => jm_Mo_bd (moX7_closeSession _ _) (fun _ => jm_Mo_rd (fun _ => jm_Mo_rd (fun _ => jm_Mo_bd (moX8_closeSession _ _) (fun _ => jm_Mo_if (ih _ _ _) (jm_Mo_rd (fun _ => jm_Mo_ret _))))))))) (jm_Mo_if (jm_Mo_rd (fun _ => jm_Mo_rd (fun _ => jm_Mo_rd (fun _ => jm_Mo_bd (moX7_watch _ _ _) (fun _ => jm_Mo_rd (fun _ => jm_Mo_rd (fun _ => jm_Mo_rd (fun _ => jm_Mo_bd (moX8_watch _ _ _) (fun _ => jm_Mo_if (ih _ _ _) (jm_Mo_rd (fun _ => jm_Mo_ret _))))))))))) (jm_Mo_if (jm_Mo_rd (fun _ => jm_Mo_rd (fun _ => jm_Mo_bd (moX7_eventCount _ _) (fun _ => jm_Mo_rd (fun _ => jm_Mo_rd (fun _ => jm_Mo_bd (moX8_eventCount _ _) (fun _ => jm_Mo_if (ih _ _ _) (jm_Mo_rd (fun _ => jm_Mo_ret _))))))))) (jm_Mo_if (jm_Mo_rd (fun _ => jm_Mo_rd (fun _ => jm_Mo_rd (fun _ => jm_Mo_bd (moX7_eventAt _ _ _) (fun _ => jm_Mo_rd (fun _ => jm_Mo_rd (fun _ => jm_Mo_rd (fun _ => jm_Mo_bd (moX8_eventAt _ _ _) (fun _ => jm_Mo_if (ih _ _ _) (jm_Mo_rd (fun _ => jm_Mo_ret _))))))))))) (jm_Mo_if (jm_Mo_rd (fun _ => jm_Mo_rd (fun _ => jm_Mo_bd (moX7_dataAt _ _) (fun _ => jm_Mo_rd (fun _ => jm_Mo_rd (fun _ => jm_Mo_bd (moX8_dataAt _ _) (fun _ => jm_Mo_if (ih _ _ _) (jm_Mo_rd (fun _ => jm_Mo_ret _))))))))) (jm_Mo_if (jm_Mo_rd (fun _ => jm_Mo_rd (fun _ => jm_Mo_bd (moX7_versionAt _ _) (fun _ => jm_Mo_rd (fun _ => jm_Mo_rd (fun _ => jm_Mo_bd (moX8_versionAt _ _) (fun _ => jm_Mo_if (ih _ _ _) (jm_Mo_rd (fun _ => jm_Mo_ret _))))))))) (jm_Mo_if (jm_Mo_rd (fun _ => jm_Mo_rd (fun _ => jm_Mo_bd (moX7_ownerAt _ _) (fun _ => jm_Mo_rd (fun _ => jm_Mo_rd (fun _ => jm_Mo_bd (moX8_ownerAt _ _) (fun _ => jm_Mo_if (ih _ _ _) (jm_Mo_rd (fun _ => jm_Mo_ret _))))))))) (jm_Mo_if (jm_Mo_rd (fun _ => jm_Mo_rd (fun _ => jm_Mo_bd (moX7_childCount _ _) (fun _ => jm_Mo_rd (fun _ => jm_Mo_rd (fun _ => jm_Mo_bd (moX8_childCount _ _) (fun _ => jm_Mo_if (ih _ _ _) (jm_Mo_rd (fun _ => jm_Mo_ret _))))))))) (jm_Mo_if (jm_Mo_rd (fun _ => jm_Mo_rd (fun _ => jm_Mo_bd (moX7_nodeCount _ _) (fun _ => jm_Mo_rd (fun _ => jm_Mo_rd (fun _ => jm_Mo_bd (moX8_nodeCount _ _) (fun _ => jm_Mo_if (ih _ _ _) (jm_Mo_rd (fun _ => jm_Mo_ret _))))))))) (jm_Mo_if (jm_Mo_rd (fun _ => jm_Mo_rd (fun _ => jm_Mo_rd (fun _ => jm_Mo_bd (moX7_commonLog _ _ _) (fun _ => jm_Mo_rd (fun _ => jm_Mo_rd (fun _ => jm_Mo_rd (fun _ => jm_Mo_bd (moX8_commonLog _ _ _) (fun _ => jm_Mo_if (ih _ _ _) (jm_Mo_rd (fun _ => jm_Mo_ret _))))))))))) (ih _ _ _))))))))))))))))))))))))))))))
set_option maxHeartbeats 4000000 in
set_option maxRecDepth 100000 in
theorem kL_law_18 {L b : Nat} {xs : Nat → Int32} {Sf : jm_S} (hX : va_X b L xs s s.heap) (hbl : b < s.heap.size) (hbA : ¬ jm_A G b) (hlo : G.2.2.2.2.1 = s.heap.size) (C : jm_C G cL_law 4 RL wsL_law (some .boolean) p s m #[Value.ref b] meth c) {n0 m0 : Nat} (hr1 : Sf.2.1 ≤ n0 + 600000) (hr2 : Sf.2.2.1 ≤ m0 + 7302250) : ∀ (n : Nat) (x1 : Option Nat) (x2 : Option Nat) (x3 : Int32) {S : jm_S} {H : Heap} {locs : List Loc} {ls : Array Slot} {cells slots : Nat}, fL_law_18 L xs n x1 x2 x3 S = some (1, Sf) → jm_J G S H → va_S (jm_A G) s.heap H locs → jm_L ls 4 [(0, .inr (some b)), (1, .inr x1), (2, .inr x2), (3, .inl x3)] → cells + n0 ≤ S.2.1 → slots + m0 ≤ S.2.2.1 → W p l e room_1 s m #[Value.ref b] below meth c H locs cells slots (lw_Z below #[Value.ref b] s) (F0 m 18 ls []) := by
  intro n
  induction n with
  | zero =>
    intro x1 x2 x3 S H locs ls cells slots hf
    rw [fL_law_18] at hf
    exact absurd hf (fun h => jm_no_ok h)
  | succ n ih =>
    intro x1 x2 x3 S H locs ls cells slots hf hJ hS hl hc1 hc2
    rw [fL_law_18] at hf
    refine lv_iload_n C.1 C.2.1 dL_law_18 rfl (hl.at 3 rfl) ?_
    refine lv_aload_n C.1 C.2.1 dL_law_19 rfl (hl.at 0 rfl) ?_
    refine va_slen C.1 C.2.1 hX hbl hbA hS dL_law_20 ?_
    refine lv_iconst (v := 3) C.1 C.2.1 dL_law_21 (by decide) ?_
    refine lv_isub C.1 C.2.1 dL_law_22 ?_
    refine lv_icmp_gt (tgt := 810) C.1 C.2.1 dL_law_23 (by decide) (fun hq6 => ?_) (fun hq6 => ?_)
    · replace hf := jm_ift hf hq6
      refine lv_iconst (v := 1) C.1 C.2.1 dL_law_810 (by decide) ?_
      obtain ⟨u7, z7, hf⟩ := jm_rd_ok hf
      obtain ⟨hv, rfl⟩ := jm_ret_ok hf
      first
        | exact absurd hv (by decide)
        | exact va_forget (fun q hq => hlo ▸ hS.2.2 q hq) (W.widen (k := 600000) (n := 7302250) (by omega) (by omega) (lw_ret C.1 C.2.1 C.2.2.2.2.2.1 C.2.2.2.2.2.2.1 dL_law_811))
    · replace hf := jm_iff hf hq6
      refine lv_aload_n C.1 C.2.1 dL_law_26 rfl (hl.at 0 rfl) ?_
      refine lv_iload_n C.1 C.2.1 dL_law_27 rfl (hl.at 3 rfl) ?_
      obtain ⟨u8, h8, hf⟩ := jm_rd_ok hf
      refine va_sld C.1 C.2.1 hX hbl hbA hS (jm_inL_ok h8) dL_law_28 ?_
      refine lv_bipush (v := 31) C.1 C.2.1 dL_law_29 (by decide) ?_
      refine lv_iand C.1 C.2.1 dL_law_31 ?_
      by_cases hs9_0 : ((xs (x3 : Int32).toNatClampNeg) &&& 31) = 0
      · replace hf := jm_ift hf hs9_0
        refine lv_tableIn (off := 128) (tgt := 160) C.1 C.2.1 dL_law_32 (by rw [hs9_0]; decide) (by rw [hs9_0]; decide) (by rw [hs9_0]; rfl) (by decide) ?_
        refine jw_aload_n C dL_law_160 rfl (hl.at 1 rfl) ?_
        refine lv_aload_n C.1 C.2.1 dL_law_161 rfl (hl.at 0 rfl) ?_
        refine lv_iload_n C.1 C.2.1 dL_law_162 rfl (hl.at 3 rfl) ?_
        refine lv_iconst (v := 1) C.1 C.2.1 dL_law_163 (by decide) ?_
        refine lv_iadd C.1 C.2.1 dL_law_164 ?_
        obtain ⟨u10, h10, hf⟩ := jm_rd_ok hf
        refine va_sld C.1 C.2.1 hX hbl hbA hS (jm_inL_ok h10) dL_law_165 ?_
        obtain ⟨a11, o11, hf⟩ := jm_rd_ok hf
        obtain ⟨v11, S11, h11, hf⟩ := jm_bd_ok hf
        have e11 := moX7_reset a11 (xs ((x3 + 1) : Int32).toNatClampNeg) _ _ _ h11
        have g11 := jm_mo hf (jm_Mo_rd (fun _ => jm_Mo_rd (fun _ => jm_Mo_bd (moX8_reset _ _) (fun _ => jm_Mo_if (moL_law_18 L xs _ _ _ _) (jm_Mo_rd (fun _ => jm_Mo_ret _))))))
        refine jw_cV (q := (RX7, TX7, 12)) C hJ hS o11 rfl (cX7_reset_C l G a11 (xs ((x3 + 1) : Int32).toNatClampNeg) h11) (cwV 1 C.2.2.2.2.1 gL_law_X7_reset rfl rfl rfl (by decide +kernel) ⟨Nat.le_of_ble_eq_true rfl, Nat.le_of_ble_eq_true rfl⟩) rfl hl.1 rfl (Nat.le_of_ble_eq_true rfl) dL_law_166 ⟨by show cells + 0 ≤ 600000; omega, by show slots + 0 ≤ 7302250; omega⟩ (fun H locs hJ hS => ?_)
        replace hc1 : cells + 0 + n0 ≤ S11.2.1 := by omega
        replace hc2 : slots + 0 + m0 ≤ S11.2.2.1 := by omega
        generalize cells + 0 = cells at hc1 ⊢
        generalize slots + 0 = slots at hc2 ⊢
        refine jw_aload_n C dL_law_169 rfl (hl.at 2 rfl) ?_
        refine lv_aload_n C.1 C.2.1 dL_law_170 rfl (hl.at 0 rfl) ?_
        refine lv_iload_n C.1 C.2.1 dL_law_171 rfl (hl.at 3 rfl) ?_
        refine lv_iconst (v := 1) C.1 C.2.1 dL_law_172 (by decide) ?_
        refine lv_iadd C.1 C.2.1 dL_law_173 ?_
        obtain ⟨u12, h12, hf⟩ := jm_rd_ok hf
        refine va_sld C.1 C.2.1 hX hbl hbA hS (jm_inL_ok h12) dL_law_174 ?_
        obtain ⟨a13, o13, hf⟩ := jm_rd_ok hf
        obtain ⟨v13, S13, h13, hf⟩ := jm_bd_ok hf
        have e13 := moX8_reset a13 (xs ((x3 + 1) : Int32).toNatClampNeg) _ _ _ h13
        have g13 := jm_mo hf (jm_Mo_if (moL_law_18 L xs _ _ _ _) (jm_Mo_rd (fun _ => jm_Mo_ret _)))
        refine jw_cV (q := (RX8, TX8, 29)) C hJ hS o13 rfl (cX8_reset_C l G a13 (xs ((x3 + 1) : Int32).toNatClampNeg) h13) (cwV 1 C.2.2.2.2.1 gL_law_X8_reset rfl rfl rfl (by decide +kernel) ⟨Nat.le_of_ble_eq_true rfl, Nat.le_of_ble_eq_true rfl⟩) rfl hl.1 rfl (Nat.le_of_ble_eq_true rfl) dL_law_175 ⟨by show cells + 0 ≤ 600000; omega, by show slots + 0 ≤ 7302250; omega⟩ (fun H locs hJ hS => ?_)
        replace hc1 : cells + 0 + n0 ≤ S13.2.1 := by omega
        replace hc2 : slots + 0 + m0 ≤ S13.2.2.1 := by omega
        generalize cells + 0 = cells at hc1 ⊢
        generalize slots + 0 = slots at hc2 ⊢
        refine lv_icmp_eq (tgt := 804) C.1 C.2.1 dL_law_178 (by decide) (fun hq14 => ?_) (fun hq14 => ?_)
        · replace hf := jm_ift hf hq14
          refine jw_iinc (v := x3 + 3) C 3 dL_law_804 hl rfl (by rfl) (by decide) rfl (fun ls hl => ?_)
          refine lv_goto (tgt := 18) C.1 C.2.1 dL_law_807 (by decide) ?_
          exact ih x1 x2 (x3 + 3) hf hJ hS (hl.sub [1, 2, 3, 0] rfl) hc1 hc2
        · replace hf := jm_iff hf hq14
          refine lv_iconst (v := 0) C.1 C.2.1 dL_law_181 (by decide) ?_
          obtain ⟨u15, z15, hf⟩ := jm_rd_ok hf
          obtain ⟨hv, rfl⟩ := jm_ret_ok hf
          first
            | exact absurd hv (by decide)
            | exact va_forget (fun q hq => hlo ▸ hS.2.2 q hq) (W.widen (k := 600000) (n := 7302250) (by omega) (by omega) (lw_ret C.1 C.2.1 C.2.2.2.2.2.1 C.2.2.2.2.2.2.1 dL_law_182))
      replace hf := jm_iff hf hs9_0
      by_cases hs9_1 : ((xs (x3 : Int32).toNatClampNeg) &&& 31) = 1
      · replace hf := jm_ift hf hs9_1
        refine lv_tableIn (off := 151) (tgt := 183) C.1 C.2.1 dL_law_32 (by rw [hs9_1]; decide) (by rw [hs9_1]; decide) (by rw [hs9_1]; rfl) (by decide) ?_
        refine jw_aload_n C dL_law_183 rfl (hl.at 1 rfl) ?_
        refine lv_aload_n C.1 C.2.1 dL_law_184 rfl (hl.at 0 rfl) ?_
        refine lv_iload_n C.1 C.2.1 dL_law_185 rfl (hl.at 3 rfl) ?_
        refine lv_iconst (v := 1) C.1 C.2.1 dL_law_186 (by decide) ?_
        refine lv_iadd C.1 C.2.1 dL_law_187 ?_
        obtain ⟨u16, h16, hf⟩ := jm_rd_ok hf
        refine va_sld C.1 C.2.1 hX hbl hbA hS (jm_inL_ok h16) dL_law_188 ?_
        obtain ⟨a17, o17, hf⟩ := jm_rd_ok hf
        obtain ⟨v17, S17, h17, hf⟩ := jm_bd_ok hf
        have e17 := moX7_crash a17 (xs ((x3 + 1) : Int32).toNatClampNeg) _ _ _ h17
        have g17 := jm_mo hf (jm_Mo_rd (fun _ => jm_Mo_rd (fun _ => jm_Mo_bd (moX8_crash _ _) (fun _ => jm_Mo_if (moL_law_18 L xs _ _ _ _) (jm_Mo_rd (fun _ => jm_Mo_ret _))))))
        refine jw_cV (q := (RX7, TX7, 12)) C hJ hS o17 rfl (cX7_crash_C l G a17 (xs ((x3 + 1) : Int32).toNatClampNeg) h17) (cwV 1 C.2.2.2.2.1 gL_law_X7_crash rfl rfl rfl (by decide +kernel) ⟨Nat.le_of_ble_eq_true rfl, Nat.le_of_ble_eq_true rfl⟩) rfl hl.1 rfl (Nat.le_of_ble_eq_true rfl) dL_law_189 ⟨by show cells + 0 ≤ 600000; omega, by show slots + 0 ≤ 7302250; omega⟩ (fun H locs hJ hS => ?_)
        replace hc1 : cells + 0 + n0 ≤ S17.2.1 := by omega
        replace hc2 : slots + 0 + m0 ≤ S17.2.2.1 := by omega
        generalize cells + 0 = cells at hc1 ⊢
        generalize slots + 0 = slots at hc2 ⊢
        refine jw_aload_n C dL_law_192 rfl (hl.at 2 rfl) ?_
        refine lv_aload_n C.1 C.2.1 dL_law_193 rfl (hl.at 0 rfl) ?_
        refine lv_iload_n C.1 C.2.1 dL_law_194 rfl (hl.at 3 rfl) ?_
        refine lv_iconst (v := 1) C.1 C.2.1 dL_law_195 (by decide) ?_
        refine lv_iadd C.1 C.2.1 dL_law_196 ?_
        obtain ⟨u18, h18, hf⟩ := jm_rd_ok hf
        refine va_sld C.1 C.2.1 hX hbl hbA hS (jm_inL_ok h18) dL_law_197 ?_
        obtain ⟨a19, o19, hf⟩ := jm_rd_ok hf
        obtain ⟨v19, S19, h19, hf⟩ := jm_bd_ok hf
        have e19 := moX8_crash a19 (xs ((x3 + 1) : Int32).toNatClampNeg) _ _ _ h19
        have g19 := jm_mo hf (jm_Mo_if (moL_law_18 L xs _ _ _ _) (jm_Mo_rd (fun _ => jm_Mo_ret _)))
        refine jw_cV (q := (RX8, TX8, 29)) C hJ hS o19 rfl (cX8_crash_C l G a19 (xs ((x3 + 1) : Int32).toNatClampNeg) h19) (cwV 1 C.2.2.2.2.1 gL_law_X8_crash rfl rfl rfl (by decide +kernel) ⟨Nat.le_of_ble_eq_true rfl, Nat.le_of_ble_eq_true rfl⟩) rfl hl.1 rfl (Nat.le_of_ble_eq_true rfl) dL_law_198 ⟨by show cells + 0 ≤ 600000; omega, by show slots + 0 ≤ 7302250; omega⟩ (fun H locs hJ hS => ?_)
        replace hc1 : cells + 0 + n0 ≤ S19.2.1 := by omega
        replace hc2 : slots + 0 + m0 ≤ S19.2.2.1 := by omega
        generalize cells + 0 = cells at hc1 ⊢
        generalize slots + 0 = slots at hc2 ⊢
        refine lv_icmp_eq (tgt := 804) C.1 C.2.1 dL_law_201 (by decide) (fun hq20 => ?_) (fun hq20 => ?_)
        · replace hf := jm_ift hf hq20
          refine jw_iinc (v := x3 + 3) C 3 dL_law_804 hl rfl (by rfl) (by decide) rfl (fun ls hl => ?_)
          refine lv_goto (tgt := 18) C.1 C.2.1 dL_law_807 (by decide) ?_
          exact ih x1 x2 (x3 + 3) hf hJ hS (hl.sub [1, 2, 3, 0] rfl) hc1 hc2
        · replace hf := jm_iff hf hq20
          refine lv_iconst (v := 0) C.1 C.2.1 dL_law_204 (by decide) ?_
          obtain ⟨u21, z21, hf⟩ := jm_rd_ok hf
          obtain ⟨hv, rfl⟩ := jm_ret_ok hf
          first
            | exact absurd hv (by decide)
            | exact va_forget (fun q hq => hlo ▸ hS.2.2 q hq) (W.widen (k := 600000) (n := 7302250) (by omega) (by omega) (lw_ret C.1 C.2.1 C.2.2.2.2.2.1 C.2.2.2.2.2.2.1 dL_law_205))
      replace hf := jm_iff hf hs9_1
      by_cases hs9_2 : ((xs (x3 : Int32).toNatClampNeg) &&& 31) = 2
      · replace hf := jm_ift hf hs9_2
        refine lv_tableIn (off := 174) (tgt := 206) C.1 C.2.1 dL_law_32 (by rw [hs9_2]; decide) (by rw [hs9_2]; decide) (by rw [hs9_2]; rfl) (by decide) ?_
        refine jw_aload_n C dL_law_206 rfl (hl.at 1 rfl) ?_
        refine lv_aload_n C.1 C.2.1 dL_law_207 rfl (hl.at 0 rfl) ?_
        refine lv_iload_n C.1 C.2.1 dL_law_208 rfl (hl.at 3 rfl) ?_
        refine lv_iconst (v := 1) C.1 C.2.1 dL_law_209 (by decide) ?_
        refine lv_iadd C.1 C.2.1 dL_law_210 ?_
        obtain ⟨u22, h22, hf⟩ := jm_rd_ok hf
        refine va_sld C.1 C.2.1 hX hbl hbA hS (jm_inL_ok h22) dL_law_211 ?_
        obtain ⟨a23, o23, hf⟩ := jm_rd_ok hf
        obtain ⟨v23, S23, h23, hf⟩ := jm_bd_ok hf
        have e23 := moX7_restart a23 (xs ((x3 + 1) : Int32).toNatClampNeg) _ _ _ h23
        have g23 := jm_mo hf (jm_Mo_rd (fun _ => jm_Mo_rd (fun _ => jm_Mo_bd (moX8_restart _ _) (fun _ => jm_Mo_if (moL_law_18 L xs _ _ _ _) (jm_Mo_rd (fun _ => jm_Mo_ret _))))))
        refine jw_cV (q := (RX7, TX7, 12)) C hJ hS o23 rfl (cX7_restart_C l G a23 (xs ((x3 + 1) : Int32).toNatClampNeg) h23) (cwV 1 C.2.2.2.2.1 gL_law_X7_restart rfl rfl rfl (by decide +kernel) ⟨Nat.le_of_ble_eq_true rfl, Nat.le_of_ble_eq_true rfl⟩) rfl hl.1 rfl (Nat.le_of_ble_eq_true rfl) dL_law_212 ⟨by show cells + 0 ≤ 600000; omega, by show slots + 0 ≤ 7302250; omega⟩ (fun H locs hJ hS => ?_)
        replace hc1 : cells + 0 + n0 ≤ S23.2.1 := by omega
        replace hc2 : slots + 0 + m0 ≤ S23.2.2.1 := by omega
        generalize cells + 0 = cells at hc1 ⊢
        generalize slots + 0 = slots at hc2 ⊢
        refine jw_aload_n C dL_law_215 rfl (hl.at 2 rfl) ?_
        refine lv_aload_n C.1 C.2.1 dL_law_216 rfl (hl.at 0 rfl) ?_
        refine lv_iload_n C.1 C.2.1 dL_law_217 rfl (hl.at 3 rfl) ?_
        refine lv_iconst (v := 1) C.1 C.2.1 dL_law_218 (by decide) ?_
        refine lv_iadd C.1 C.2.1 dL_law_219 ?_
        obtain ⟨u24, h24, hf⟩ := jm_rd_ok hf
        refine va_sld C.1 C.2.1 hX hbl hbA hS (jm_inL_ok h24) dL_law_220 ?_
        obtain ⟨a25, o25, hf⟩ := jm_rd_ok hf
        obtain ⟨v25, S25, h25, hf⟩ := jm_bd_ok hf
        have e25 := moX8_restart a25 (xs ((x3 + 1) : Int32).toNatClampNeg) _ _ _ h25
        have g25 := jm_mo hf (jm_Mo_if (moL_law_18 L xs _ _ _ _) (jm_Mo_rd (fun _ => jm_Mo_ret _)))
        refine jw_cV (q := (RX8, TX8, 29)) C hJ hS o25 rfl (cX8_restart_C l G a25 (xs ((x3 + 1) : Int32).toNatClampNeg) h25) (cwV 1 C.2.2.2.2.1 gL_law_X8_restart rfl rfl rfl (by decide +kernel) ⟨Nat.le_of_ble_eq_true rfl, Nat.le_of_ble_eq_true rfl⟩) rfl hl.1 rfl (Nat.le_of_ble_eq_true rfl) dL_law_221 ⟨by show cells + 0 ≤ 600000; omega, by show slots + 0 ≤ 7302250; omega⟩ (fun H locs hJ hS => ?_)
        replace hc1 : cells + 0 + n0 ≤ S25.2.1 := by omega
        replace hc2 : slots + 0 + m0 ≤ S25.2.2.1 := by omega
        generalize cells + 0 = cells at hc1 ⊢
        generalize slots + 0 = slots at hc2 ⊢
        refine lv_icmp_eq (tgt := 804) C.1 C.2.1 dL_law_224 (by decide) (fun hq26 => ?_) (fun hq26 => ?_)
        · replace hf := jm_ift hf hq26
          refine jw_iinc (v := x3 + 3) C 3 dL_law_804 hl rfl (by rfl) (by decide) rfl (fun ls hl => ?_)
          refine lv_goto (tgt := 18) C.1 C.2.1 dL_law_807 (by decide) ?_
          exact ih x1 x2 (x3 + 3) hf hJ hS (hl.sub [1, 2, 3, 0] rfl) hc1 hc2
        · replace hf := jm_iff hf hq26
          refine lv_iconst (v := 0) C.1 C.2.1 dL_law_227 (by decide) ?_
          obtain ⟨u27, z27, hf⟩ := jm_rd_ok hf
          obtain ⟨hv, rfl⟩ := jm_ret_ok hf
          first
            | exact absurd hv (by decide)
            | exact va_forget (fun q hq => hlo ▸ hS.2.2 q hq) (W.widen (k := 600000) (n := 7302250) (by omega) (by omega) (lw_ret C.1 C.2.1 C.2.2.2.2.2.1 C.2.2.2.2.2.2.1 dL_law_228))
      replace hf := jm_iff hf hs9_2
      by_cases hs9_3 : ((xs (x3 : Int32).toNatClampNeg) &&& 31) = 3
      · replace hf := jm_ift hf hs9_3
        refine lv_tableIn (off := 197) (tgt := 229) C.1 C.2.1 dL_law_32 (by rw [hs9_3]; decide) (by rw [hs9_3]; decide) (by rw [hs9_3]; rfl) (by decide) ?_
        refine jw_aload_n C dL_law_229 rfl (hl.at 1 rfl) ?_
        obtain ⟨a28, o28, hf⟩ := jm_rd_ok hf
        obtain ⟨v28, S28, h28, hf⟩ := jm_bd_ok hf
        have e28 := moX7_elect a28 _ _ _ h28
        have g28 := jm_mo hf (jm_Mo_rd (fun _ => jm_Mo_bd (moX8_elect _) (fun _ => jm_Mo_if (moL_law_18 L xs _ _ _ _) (jm_Mo_rd (fun _ => jm_Mo_ret _)))))
        refine jw_cV (q := (RX7, TX7, 12)) C hJ hS o28 rfl (cX7_elect_C l G a28 h28 (S28.2.1 - S.2.1) (S28.2.2.1 - S.2.2.1) (by omega) (by omega)) (cwV 0 C.2.2.2.2.1 gL_law_X7_elect rfl rfl rfl (by decide +kernel) ⟨Nat.le_of_ble_eq_true rfl, Nat.le_of_ble_eq_true rfl⟩) rfl hl.1 rfl (Nat.le_of_ble_eq_true rfl) dL_law_230 ⟨by show cells + _ ≤ 600000; omega, by show slots + _ ≤ 7302250; omega⟩ (fun H locs hJ hS => ?_)
        replace hc1 : cells + (S28.2.1 - S.2.1) + n0 ≤ S28.2.1 := by omega
        replace hc2 : slots + (S28.2.2.1 - S.2.2.1) + m0 ≤ S28.2.2.1 := by omega
        generalize cells + (S28.2.1 - S.2.1) = cells at hc1 ⊢
        generalize slots + (S28.2.2.1 - S.2.2.1) = slots at hc2 ⊢
        refine jw_aload_n C dL_law_233 rfl (hl.at 2 rfl) ?_
        obtain ⟨a29, o29, hf⟩ := jm_rd_ok hf
        obtain ⟨v29, S29, h29, hf⟩ := jm_bd_ok hf
        have e29 := moX8_elect a29 _ _ _ h29
        have g29 := jm_mo hf (jm_Mo_if (moL_law_18 L xs _ _ _ _) (jm_Mo_rd (fun _ => jm_Mo_ret _)))
        refine jw_cV (q := (RX8, TX8, 29)) C hJ hS o29 rfl (cX8_elect_C l G a29 h29) (cwV 0 C.2.2.2.2.1 gL_law_X8_elect rfl rfl rfl (by decide +kernel) ⟨Nat.le_of_ble_eq_true rfl, Nat.le_of_ble_eq_true rfl⟩) rfl hl.1 rfl (Nat.le_of_ble_eq_true rfl) dL_law_234 ⟨by show cells + 0 ≤ 600000; omega, by show slots + 0 ≤ 7302250; omega⟩ (fun H locs hJ hS => ?_)
        replace hc1 : cells + 0 + n0 ≤ S29.2.1 := by omega
        replace hc2 : slots + 0 + m0 ≤ S29.2.2.1 := by omega
        generalize cells + 0 = cells at hc1 ⊢
        generalize slots + 0 = slots at hc2 ⊢
        refine lv_icmp_eq (tgt := 804) C.1 C.2.1 dL_law_237 (by decide) (fun hq30 => ?_) (fun hq30 => ?_)
        · replace hf := jm_ift hf hq30
          refine jw_iinc (v := x3 + 3) C 3 dL_law_804 hl rfl (by rfl) (by decide) rfl (fun ls hl => ?_)
          refine lv_goto (tgt := 18) C.1 C.2.1 dL_law_807 (by decide) ?_
          exact ih x1 x2 (x3 + 3) hf hJ hS (hl.sub [1, 2, 3, 0] rfl) hc1 hc2
        · replace hf := jm_iff hf hq30
          refine lv_iconst (v := 0) C.1 C.2.1 dL_law_240 (by decide) ?_
          obtain ⟨u31, z31, hf⟩ := jm_rd_ok hf
          obtain ⟨hv, rfl⟩ := jm_ret_ok hf
          first
            | exact absurd hv (by decide)
            | exact va_forget (fun q hq => hlo ▸ hS.2.2 q hq) (W.widen (k := 600000) (n := 7302250) (by omega) (by omega) (lw_ret C.1 C.2.1 C.2.2.2.2.2.1 C.2.2.2.2.2.2.1 dL_law_241))
      replace hf := jm_iff hf hs9_3
      by_cases hs9_4 : ((xs (x3 : Int32).toNatClampNeg) &&& 31) = 4
      · replace hf := jm_ift hf hs9_4
        refine lv_tableIn (off := 210) (tgt := 242) C.1 C.2.1 dL_law_32 (by rw [hs9_4]; decide) (by rw [hs9_4]; decide) (by rw [hs9_4]; rfl) (by decide) ?_
        refine jw_aload_n C dL_law_242 rfl (hl.at 1 rfl) ?_
        refine lv_aload_n C.1 C.2.1 dL_law_243 rfl (hl.at 0 rfl) ?_
        refine lv_iload_n C.1 C.2.1 dL_law_244 rfl (hl.at 3 rfl) ?_
        refine lv_iconst (v := 1) C.1 C.2.1 dL_law_245 (by decide) ?_
        refine lv_iadd C.1 C.2.1 dL_law_246 ?_
        obtain ⟨u32, h32, hf⟩ := jm_rd_ok hf
        refine va_sld C.1 C.2.1 hX hbl hbA hS (jm_inL_ok h32) dL_law_247 ?_
        obtain ⟨a33, o33, hf⟩ := jm_rd_ok hf
        obtain ⟨v33, S33, h33, hf⟩ := jm_bd_ok hf
        have e33 := moX7_synchronize a33 (xs ((x3 + 1) : Int32).toNatClampNeg) _ _ _ h33
        have g33 := jm_mo hf (jm_Mo_rd (fun _ => jm_Mo_rd (fun _ => jm_Mo_bd (moX8_synchronize _ _) (fun _ => jm_Mo_if (moL_law_18 L xs _ _ _ _) (jm_Mo_rd (fun _ => jm_Mo_ret _))))))
        refine jw_cV (q := (RX7, TX7, 12)) C hJ hS o33 rfl (cX7_synchronize_C l G a33 (xs ((x3 + 1) : Int32).toNatClampNeg) h33 (S33.2.1 - S.2.1) (S33.2.2.1 - S.2.2.1) (by omega) (by omega)) (cwV 1 C.2.2.2.2.1 gL_law_X7_synchronize rfl rfl rfl (by decide +kernel) ⟨Nat.le_of_ble_eq_true rfl, Nat.le_of_ble_eq_true rfl⟩) rfl hl.1 rfl (Nat.le_of_ble_eq_true rfl) dL_law_248 ⟨by show cells + _ ≤ 600000; omega, by show slots + _ ≤ 7302250; omega⟩ (fun H locs hJ hS => ?_)
        replace hc1 : cells + (S33.2.1 - S.2.1) + n0 ≤ S33.2.1 := by omega
        replace hc2 : slots + (S33.2.2.1 - S.2.2.1) + m0 ≤ S33.2.2.1 := by omega
        generalize cells + (S33.2.1 - S.2.1) = cells at hc1 ⊢
        generalize slots + (S33.2.2.1 - S.2.2.1) = slots at hc2 ⊢
        refine jw_aload_n C dL_law_251 rfl (hl.at 2 rfl) ?_
        refine lv_aload_n C.1 C.2.1 dL_law_252 rfl (hl.at 0 rfl) ?_
        refine lv_iload_n C.1 C.2.1 dL_law_253 rfl (hl.at 3 rfl) ?_
        refine lv_iconst (v := 1) C.1 C.2.1 dL_law_254 (by decide) ?_
        refine lv_iadd C.1 C.2.1 dL_law_255 ?_
        obtain ⟨u34, h34, hf⟩ := jm_rd_ok hf
        refine va_sld C.1 C.2.1 hX hbl hbA hS (jm_inL_ok h34) dL_law_256 ?_
        obtain ⟨a35, o35, hf⟩ := jm_rd_ok hf
        obtain ⟨v35, S35, h35, hf⟩ := jm_bd_ok hf
        have e35 := moX8_synchronize a35 (xs ((x3 + 1) : Int32).toNatClampNeg) _ _ _ h35
        have g35 := jm_mo hf (jm_Mo_if (moL_law_18 L xs _ _ _ _) (jm_Mo_rd (fun _ => jm_Mo_ret _)))
        refine jw_cV (q := (RX8, TX8, 29)) C hJ hS o35 rfl (cX8_synchronize_C l G a35 (xs ((x3 + 1) : Int32).toNatClampNeg) h35) (cwV 1 C.2.2.2.2.1 gL_law_X8_synchronize rfl rfl rfl (by decide +kernel) ⟨Nat.le_of_ble_eq_true rfl, Nat.le_of_ble_eq_true rfl⟩) rfl hl.1 rfl (Nat.le_of_ble_eq_true rfl) dL_law_257 ⟨by show cells + 0 ≤ 600000; omega, by show slots + 0 ≤ 7302250; omega⟩ (fun H locs hJ hS => ?_)
        replace hc1 : cells + 0 + n0 ≤ S35.2.1 := by omega
        replace hc2 : slots + 0 + m0 ≤ S35.2.2.1 := by omega
        generalize cells + 0 = cells at hc1 ⊢
        generalize slots + 0 = slots at hc2 ⊢
        refine lv_icmp_eq (tgt := 804) C.1 C.2.1 dL_law_260 (by decide) (fun hq36 => ?_) (fun hq36 => ?_)
        · replace hf := jm_ift hf hq36
          refine jw_iinc (v := x3 + 3) C 3 dL_law_804 hl rfl (by rfl) (by decide) rfl (fun ls hl => ?_)
          refine lv_goto (tgt := 18) C.1 C.2.1 dL_law_807 (by decide) ?_
          exact ih x1 x2 (x3 + 3) hf hJ hS (hl.sub [1, 2, 3, 0] rfl) hc1 hc2
        · replace hf := jm_iff hf hq36
          refine lv_iconst (v := 0) C.1 C.2.1 dL_law_263 (by decide) ?_
          obtain ⟨u37, z37, hf⟩ := jm_rd_ok hf
          obtain ⟨hv, rfl⟩ := jm_ret_ok hf
          first
            | exact absurd hv (by decide)
            | exact va_forget (fun q hq => hlo ▸ hS.2.2 q hq) (W.widen (k := 600000) (n := 7302250) (by omega) (by omega) (lw_ret C.1 C.2.1 C.2.2.2.2.2.1 C.2.2.2.2.2.2.1 dL_law_264))
      replace hf := jm_iff hf hs9_4
      by_cases hs9_5 : ((xs (x3 : Int32).toNatClampNeg) &&& 31) = 5
      · replace hf := jm_ift hf hs9_5
        refine lv_tableIn (off := 233) (tgt := 265) C.1 C.2.1 dL_law_32 (by rw [hs9_5]; decide) (by rw [hs9_5]; decide) (by rw [hs9_5]; rfl) (by decide) ?_
        refine jw_aload_n C dL_law_265 rfl (hl.at 1 rfl) ?_
        refine lv_aload_n C.1 C.2.1 dL_law_266 rfl (hl.at 0 rfl) ?_
        refine lv_iload_n C.1 C.2.1 dL_law_267 rfl (hl.at 3 rfl) ?_
        refine lv_iconst (v := 1) C.1 C.2.1 dL_law_268 (by decide) ?_
        refine lv_iadd C.1 C.2.1 dL_law_269 ?_
        obtain ⟨u38, h38, hf⟩ := jm_rd_ok hf
        refine va_sld C.1 C.2.1 hX hbl hbA hS (jm_inL_ok h38) dL_law_270 ?_
        obtain ⟨a39, o39, hf⟩ := jm_rd_ok hf
        obtain ⟨v39, S39, h39, hf⟩ := jm_bd_ok hf
        have e39 := moX7_accept a39 (xs ((x3 + 1) : Int32).toNatClampNeg) _ _ _ h39
        have g39 := jm_mo hf (jm_Mo_rd (fun _ => jm_Mo_rd (fun _ => jm_Mo_bd (moX8_accept _ _) (fun _ => jm_Mo_if (moL_law_18 L xs _ _ _ _) (jm_Mo_rd (fun _ => jm_Mo_ret _))))))
        refine jw_cV (q := (RX7, TX7, 12)) C hJ hS o39 rfl (cX7_accept_C l G a39 (xs ((x3 + 1) : Int32).toNatClampNeg) h39 (S39.2.1 - S.2.1) (S39.2.2.1 - S.2.2.1) (by omega) (by omega)) (cwV 1 C.2.2.2.2.1 gL_law_X7_accept rfl rfl rfl (by decide +kernel) ⟨Nat.le_of_ble_eq_true rfl, Nat.le_of_ble_eq_true rfl⟩) rfl hl.1 rfl (Nat.le_of_ble_eq_true rfl) dL_law_271 ⟨by show cells + _ ≤ 600000; omega, by show slots + _ ≤ 7302250; omega⟩ (fun H locs hJ hS => ?_)
        replace hc1 : cells + (S39.2.1 - S.2.1) + n0 ≤ S39.2.1 := by omega
        replace hc2 : slots + (S39.2.2.1 - S.2.2.1) + m0 ≤ S39.2.2.1 := by omega
        generalize cells + (S39.2.1 - S.2.1) = cells at hc1 ⊢
        generalize slots + (S39.2.2.1 - S.2.2.1) = slots at hc2 ⊢
        refine jw_aload_n C dL_law_274 rfl (hl.at 2 rfl) ?_
        refine lv_aload_n C.1 C.2.1 dL_law_275 rfl (hl.at 0 rfl) ?_
        refine lv_iload_n C.1 C.2.1 dL_law_276 rfl (hl.at 3 rfl) ?_
        refine lv_iconst (v := 1) C.1 C.2.1 dL_law_277 (by decide) ?_
        refine lv_iadd C.1 C.2.1 dL_law_278 ?_
        obtain ⟨u40, h40, hf⟩ := jm_rd_ok hf
        refine va_sld C.1 C.2.1 hX hbl hbA hS (jm_inL_ok h40) dL_law_279 ?_
        obtain ⟨a41, o41, hf⟩ := jm_rd_ok hf
        obtain ⟨v41, S41, h41, hf⟩ := jm_bd_ok hf
        have e41 := moX8_accept a41 (xs ((x3 + 1) : Int32).toNatClampNeg) _ _ _ h41
        have g41 := jm_mo hf (jm_Mo_if (moL_law_18 L xs _ _ _ _) (jm_Mo_rd (fun _ => jm_Mo_ret _)))
        refine jw_cV (q := (RX8, TX8, 29)) C hJ hS o41 rfl (cX8_accept_C l G a41 (xs ((x3 + 1) : Int32).toNatClampNeg) h41) (cwV 1 C.2.2.2.2.1 gL_law_X8_accept rfl rfl rfl (by decide +kernel) ⟨Nat.le_of_ble_eq_true rfl, Nat.le_of_ble_eq_true rfl⟩) rfl hl.1 rfl (Nat.le_of_ble_eq_true rfl) dL_law_280 ⟨by show cells + 0 ≤ 600000; omega, by show slots + 0 ≤ 7302250; omega⟩ (fun H locs hJ hS => ?_)
        replace hc1 : cells + 0 + n0 ≤ S41.2.1 := by omega
        replace hc2 : slots + 0 + m0 ≤ S41.2.2.1 := by omega
        generalize cells + 0 = cells at hc1 ⊢
        generalize slots + 0 = slots at hc2 ⊢
        refine lv_icmp_eq (tgt := 804) C.1 C.2.1 dL_law_283 (by decide) (fun hq42 => ?_) (fun hq42 => ?_)
        · replace hf := jm_ift hf hq42
          refine jw_iinc (v := x3 + 3) C 3 dL_law_804 hl rfl (by rfl) (by decide) rfl (fun ls hl => ?_)
          refine lv_goto (tgt := 18) C.1 C.2.1 dL_law_807 (by decide) ?_
          exact ih x1 x2 (x3 + 3) hf hJ hS (hl.sub [1, 2, 3, 0] rfl) hc1 hc2
        · replace hf := jm_iff hf hq42
          refine lv_iconst (v := 0) C.1 C.2.1 dL_law_286 (by decide) ?_
          obtain ⟨u43, z43, hf⟩ := jm_rd_ok hf
          obtain ⟨hv, rfl⟩ := jm_ret_ok hf
          first
            | exact absurd hv (by decide)
            | exact va_forget (fun q hq => hlo ▸ hS.2.2 q hq) (W.widen (k := 600000) (n := 7302250) (by omega) (by omega) (lw_ret C.1 C.2.1 C.2.2.2.2.2.1 C.2.2.2.2.2.2.1 dL_law_287))
      replace hf := jm_iff hf hs9_5
      by_cases hs9_6 : ((xs (x3 : Int32).toNatClampNeg) &&& 31) = 6
      · replace hf := jm_ift hf hs9_6
        refine lv_tableIn (off := 256) (tgt := 288) C.1 C.2.1 dL_law_32 (by rw [hs9_6]; decide) (by rw [hs9_6]; decide) (by rw [hs9_6]; rfl) (by decide) ?_
        refine jw_aload_n C dL_law_288 rfl (hl.at 1 rfl) ?_
        refine lv_aload_n C.1 C.2.1 dL_law_289 rfl (hl.at 0 rfl) ?_
        refine lv_iload_n C.1 C.2.1 dL_law_290 rfl (hl.at 3 rfl) ?_
        refine lv_iconst (v := 1) C.1 C.2.1 dL_law_291 (by decide) ?_
        refine lv_iadd C.1 C.2.1 dL_law_292 ?_
        obtain ⟨u44, h44, hf⟩ := jm_rd_ok hf
        refine va_sld C.1 C.2.1 hX hbl hbA hS (jm_inL_ok h44) dL_law_293 ?_
        obtain ⟨a45, o45, hf⟩ := jm_rd_ok hf
        obtain ⟨v45, S45, h45, hf⟩ := jm_bd_ok hf
        have e45 := moX7_heartbeat a45 (xs ((x3 + 1) : Int32).toNatClampNeg) _ _ _ h45
        have g45 := jm_mo hf (jm_Mo_rd (fun _ => jm_Mo_rd (fun _ => jm_Mo_bd (moX8_heartbeat _ _) (fun _ => jm_Mo_if (moL_law_18 L xs _ _ _ _) (jm_Mo_rd (fun _ => jm_Mo_ret _))))))
        refine jw_cV (q := (RX7, TX7, 12)) C hJ hS o45 rfl (cX7_heartbeat_C l G a45 (xs ((x3 + 1) : Int32).toNatClampNeg) h45) (cwV 1 C.2.2.2.2.1 gL_law_X7_heartbeat rfl rfl rfl (by decide +kernel) ⟨Nat.le_of_ble_eq_true rfl, Nat.le_of_ble_eq_true rfl⟩) rfl hl.1 rfl (Nat.le_of_ble_eq_true rfl) dL_law_294 ⟨by show cells + 0 ≤ 600000; omega, by show slots + 0 ≤ 7302250; omega⟩ (fun H locs hJ hS => ?_)
        replace hc1 : cells + 0 + n0 ≤ S45.2.1 := by omega
        replace hc2 : slots + 0 + m0 ≤ S45.2.2.1 := by omega
        generalize cells + 0 = cells at hc1 ⊢
        generalize slots + 0 = slots at hc2 ⊢
        refine jw_aload_n C dL_law_297 rfl (hl.at 2 rfl) ?_
        refine lv_aload_n C.1 C.2.1 dL_law_298 rfl (hl.at 0 rfl) ?_
        refine lv_iload_n C.1 C.2.1 dL_law_299 rfl (hl.at 3 rfl) ?_
        refine lv_iconst (v := 1) C.1 C.2.1 dL_law_300 (by decide) ?_
        refine lv_iadd C.1 C.2.1 dL_law_301 ?_
        obtain ⟨u46, h46, hf⟩ := jm_rd_ok hf
        refine va_sld C.1 C.2.1 hX hbl hbA hS (jm_inL_ok h46) dL_law_302 ?_
        obtain ⟨a47, o47, hf⟩ := jm_rd_ok hf
        obtain ⟨v47, S47, h47, hf⟩ := jm_bd_ok hf
        have e47 := moX8_heartbeat a47 (xs ((x3 + 1) : Int32).toNatClampNeg) _ _ _ h47
        have g47 := jm_mo hf (jm_Mo_if (moL_law_18 L xs _ _ _ _) (jm_Mo_rd (fun _ => jm_Mo_ret _)))
        refine jw_cV (q := (RX8, TX8, 29)) C hJ hS o47 rfl (cX8_heartbeat_C l G a47 (xs ((x3 + 1) : Int32).toNatClampNeg) h47) (cwV 1 C.2.2.2.2.1 gL_law_X8_heartbeat rfl rfl rfl (by decide +kernel) ⟨Nat.le_of_ble_eq_true rfl, Nat.le_of_ble_eq_true rfl⟩) rfl hl.1 rfl (Nat.le_of_ble_eq_true rfl) dL_law_303 ⟨by show cells + 0 ≤ 600000; omega, by show slots + 0 ≤ 7302250; omega⟩ (fun H locs hJ hS => ?_)
        replace hc1 : cells + 0 + n0 ≤ S47.2.1 := by omega
        replace hc2 : slots + 0 + m0 ≤ S47.2.2.1 := by omega
        generalize cells + 0 = cells at hc1 ⊢
        generalize slots + 0 = slots at hc2 ⊢
        refine lv_icmp_eq (tgt := 804) C.1 C.2.1 dL_law_306 (by decide) (fun hq48 => ?_) (fun hq48 => ?_)
        · replace hf := jm_ift hf hq48
          refine jw_iinc (v := x3 + 3) C 3 dL_law_804 hl rfl (by rfl) (by decide) rfl (fun ls hl => ?_)
          refine lv_goto (tgt := 18) C.1 C.2.1 dL_law_807 (by decide) ?_
          exact ih x1 x2 (x3 + 3) hf hJ hS (hl.sub [1, 2, 3, 0] rfl) hc1 hc2
        · replace hf := jm_iff hf hq48
          refine lv_iconst (v := 0) C.1 C.2.1 dL_law_309 (by decide) ?_
          obtain ⟨u49, z49, hf⟩ := jm_rd_ok hf
          obtain ⟨hv, rfl⟩ := jm_ret_ok hf
          first
            | exact absurd hv (by decide)
            | exact va_forget (fun q hq => hlo ▸ hS.2.2 q hq) (W.widen (k := 600000) (n := 7302250) (by omega) (by omega) (lw_ret C.1 C.2.1 C.2.2.2.2.2.1 C.2.2.2.2.2.2.1 dL_law_310))
      replace hf := jm_iff hf hs9_6
      by_cases hs9_7 : ((xs (x3 : Int32).toNatClampNeg) &&& 31) = 7
      · replace hf := jm_ift hf hs9_7
        refine lv_tableIn (off := 279) (tgt := 311) C.1 C.2.1 dL_law_32 (by rw [hs9_7]; decide) (by rw [hs9_7]; decide) (by rw [hs9_7]; rfl) (by decide) ?_
        refine jw_aload_n C dL_law_311 rfl (hl.at 1 rfl) ?_
        obtain ⟨a50, o50, hf⟩ := jm_rd_ok hf
        obtain ⟨v50, S50, h50, hf⟩ := jm_bd_ok hf
        have e50 := moX7_leader a50 _ _ _ h50
        have g50 := jm_mo hf (jm_Mo_rd (fun _ => jm_Mo_bd (moX8_leader _) (fun _ => jm_Mo_if (moL_law_18 L xs _ _ _ _) (jm_Mo_rd (fun _ => jm_Mo_ret _)))))
        refine jw_cV (q := (RX7, TX7, 12)) C hJ hS o50 rfl (cX7_leader_C l G a50 h50) (cwV 0 C.2.2.2.2.1 gL_law_X7_leader rfl rfl rfl (by decide +kernel) ⟨Nat.le_of_ble_eq_true rfl, Nat.le_of_ble_eq_true rfl⟩) rfl hl.1 rfl (Nat.le_of_ble_eq_true rfl) dL_law_312 ⟨by show cells + 0 ≤ 600000; omega, by show slots + 0 ≤ 7302250; omega⟩ (fun H locs hJ hS => ?_)
        replace hc1 : cells + 0 + n0 ≤ S50.2.1 := by omega
        replace hc2 : slots + 0 + m0 ≤ S50.2.2.1 := by omega
        generalize cells + 0 = cells at hc1 ⊢
        generalize slots + 0 = slots at hc2 ⊢
        refine jw_aload_n C dL_law_315 rfl (hl.at 2 rfl) ?_
        obtain ⟨a51, o51, hf⟩ := jm_rd_ok hf
        obtain ⟨v51, S51, h51, hf⟩ := jm_bd_ok hf
        have e51 := moX8_leader a51 _ _ _ h51
        have g51 := jm_mo hf (jm_Mo_if (moL_law_18 L xs _ _ _ _) (jm_Mo_rd (fun _ => jm_Mo_ret _)))
        refine jw_cV (q := (RX8, TX8, 29)) C hJ hS o51 rfl (cX8_leader_C l G a51 h51) (cwV 0 C.2.2.2.2.1 gL_law_X8_leader rfl rfl rfl (by decide +kernel) ⟨Nat.le_of_ble_eq_true rfl, Nat.le_of_ble_eq_true rfl⟩) rfl hl.1 rfl (Nat.le_of_ble_eq_true rfl) dL_law_316 ⟨by show cells + 0 ≤ 600000; omega, by show slots + 0 ≤ 7302250; omega⟩ (fun H locs hJ hS => ?_)
        replace hc1 : cells + 0 + n0 ≤ S51.2.1 := by omega
        replace hc2 : slots + 0 + m0 ≤ S51.2.2.1 := by omega
        generalize cells + 0 = cells at hc1 ⊢
        generalize slots + 0 = slots at hc2 ⊢
        refine lv_icmp_eq (tgt := 804) C.1 C.2.1 dL_law_319 (by decide) (fun hq52 => ?_) (fun hq52 => ?_)
        · replace hf := jm_ift hf hq52
          refine jw_iinc (v := x3 + 3) C 3 dL_law_804 hl rfl (by rfl) (by decide) rfl (fun ls hl => ?_)
          refine lv_goto (tgt := 18) C.1 C.2.1 dL_law_807 (by decide) ?_
          exact ih x1 x2 (x3 + 3) hf hJ hS (hl.sub [1, 2, 3, 0] rfl) hc1 hc2
        · replace hf := jm_iff hf hq52
          refine lv_iconst (v := 0) C.1 C.2.1 dL_law_322 (by decide) ?_
          obtain ⟨u53, z53, hf⟩ := jm_rd_ok hf
          obtain ⟨hv, rfl⟩ := jm_ret_ok hf
          first
            | exact absurd hv (by decide)
            | exact va_forget (fun q hq => hlo ▸ hS.2.2 q hq) (W.widen (k := 600000) (n := 7302250) (by omega) (by omega) (lw_ret C.1 C.2.1 C.2.2.2.2.2.1 C.2.2.2.2.2.2.1 dL_law_323))
      replace hf := jm_iff hf hs9_7
      by_cases hs9_8 : ((xs (x3 : Int32).toNatClampNeg) &&& 31) = 8
      · replace hf := jm_ift hf hs9_8
        refine lv_tableIn (off := 292) (tgt := 324) C.1 C.2.1 dL_law_32 (by rw [hs9_8]; decide) (by rw [hs9_8]; decide) (by rw [hs9_8]; rfl) (by decide) ?_
        refine jw_aload_n C dL_law_324 rfl (hl.at 1 rfl) ?_
        refine lv_aload_n C.1 C.2.1 dL_law_325 rfl (hl.at 0 rfl) ?_
        refine lv_iload_n C.1 C.2.1 dL_law_326 rfl (hl.at 3 rfl) ?_
        refine lv_iconst (v := 1) C.1 C.2.1 dL_law_327 (by decide) ?_
        refine lv_iadd C.1 C.2.1 dL_law_328 ?_
        obtain ⟨u54, h54, hf⟩ := jm_rd_ok hf
        refine va_sld C.1 C.2.1 hX hbl hbA hS (jm_inL_ok h54) dL_law_329 ?_
        obtain ⟨a55, o55, hf⟩ := jm_rd_ok hf
        obtain ⟨v55, S55, h55, hf⟩ := jm_bd_ok hf
        have e55 := moX7_lastIdentifier a55 (xs ((x3 + 1) : Int32).toNatClampNeg) _ _ _ h55
        have g55 := jm_mo hf (jm_Mo_rd (fun _ => jm_Mo_rd (fun _ => jm_Mo_bd (moX8_lastIdentifier _ _) (fun _ => jm_Mo_if (moL_law_18 L xs _ _ _ _) (jm_Mo_rd (fun _ => jm_Mo_ret _))))))
        refine jw_cV (q := (RX7, TX7, 12)) C hJ hS o55 rfl (cX7_lastIdentifier_C l G a55 (xs ((x3 + 1) : Int32).toNatClampNeg) h55) (cwV 1 C.2.2.2.2.1 gL_law_X7_lastIdentifier rfl rfl rfl (by decide +kernel) ⟨Nat.le_of_ble_eq_true rfl, Nat.le_of_ble_eq_true rfl⟩) rfl hl.1 rfl (Nat.le_of_ble_eq_true rfl) dL_law_330 ⟨by show cells + 0 ≤ 600000; omega, by show slots + 0 ≤ 7302250; omega⟩ (fun H locs hJ hS => ?_)
        replace hc1 : cells + 0 + n0 ≤ S55.2.1 := by omega
        replace hc2 : slots + 0 + m0 ≤ S55.2.2.1 := by omega
        generalize cells + 0 = cells at hc1 ⊢
        generalize slots + 0 = slots at hc2 ⊢
        refine jw_aload_n C dL_law_333 rfl (hl.at 2 rfl) ?_
        refine lv_aload_n C.1 C.2.1 dL_law_334 rfl (hl.at 0 rfl) ?_
        refine lv_iload_n C.1 C.2.1 dL_law_335 rfl (hl.at 3 rfl) ?_
        refine lv_iconst (v := 1) C.1 C.2.1 dL_law_336 (by decide) ?_
        refine lv_iadd C.1 C.2.1 dL_law_337 ?_
        obtain ⟨u56, h56, hf⟩ := jm_rd_ok hf
        refine va_sld C.1 C.2.1 hX hbl hbA hS (jm_inL_ok h56) dL_law_338 ?_
        obtain ⟨a57, o57, hf⟩ := jm_rd_ok hf
        obtain ⟨v57, S57, h57, hf⟩ := jm_bd_ok hf
        have e57 := moX8_lastIdentifier a57 (xs ((x3 + 1) : Int32).toNatClampNeg) _ _ _ h57
        have g57 := jm_mo hf (jm_Mo_if (moL_law_18 L xs _ _ _ _) (jm_Mo_rd (fun _ => jm_Mo_ret _)))
        refine jw_cV (q := (RX8, TX8, 29)) C hJ hS o57 rfl (cX8_lastIdentifier_C l G a57 (xs ((x3 + 1) : Int32).toNatClampNeg) h57) (cwV 1 C.2.2.2.2.1 gL_law_X8_lastIdentifier rfl rfl rfl (by decide +kernel) ⟨Nat.le_of_ble_eq_true rfl, Nat.le_of_ble_eq_true rfl⟩) rfl hl.1 rfl (Nat.le_of_ble_eq_true rfl) dL_law_339 ⟨by show cells + 0 ≤ 600000; omega, by show slots + 0 ≤ 7302250; omega⟩ (fun H locs hJ hS => ?_)
        replace hc1 : cells + 0 + n0 ≤ S57.2.1 := by omega
        replace hc2 : slots + 0 + m0 ≤ S57.2.2.1 := by omega
        generalize cells + 0 = cells at hc1 ⊢
        generalize slots + 0 = slots at hc2 ⊢
        refine lv_icmp_eq (tgt := 804) C.1 C.2.1 dL_law_342 (by decide) (fun hq58 => ?_) (fun hq58 => ?_)
        · replace hf := jm_ift hf hq58
          refine jw_iinc (v := x3 + 3) C 3 dL_law_804 hl rfl (by rfl) (by decide) rfl (fun ls hl => ?_)
          refine lv_goto (tgt := 18) C.1 C.2.1 dL_law_807 (by decide) ?_
          exact ih x1 x2 (x3 + 3) hf hJ hS (hl.sub [1, 2, 3, 0] rfl) hc1 hc2
        · replace hf := jm_iff hf hq58
          refine lv_iconst (v := 0) C.1 C.2.1 dL_law_345 (by decide) ?_
          obtain ⟨u59, z59, hf⟩ := jm_rd_ok hf
          obtain ⟨hv, rfl⟩ := jm_ret_ok hf
          first
            | exact absurd hv (by decide)
            | exact va_forget (fun q hq => hlo ▸ hS.2.2 q hq) (W.widen (k := 600000) (n := 7302250) (by omega) (by omega) (lw_ret C.1 C.2.1 C.2.2.2.2.2.1 C.2.2.2.2.2.2.1 dL_law_346))
      replace hf := jm_iff hf hs9_8
      by_cases hs9_9 : ((xs (x3 : Int32).toNatClampNeg) &&& 31) = 9
      · replace hf := jm_ift hf hs9_9
        refine lv_tableIn (off := 315) (tgt := 347) C.1 C.2.1 dL_law_32 (by rw [hs9_9]; decide) (by rw [hs9_9]; decide) (by rw [hs9_9]; rfl) (by decide) ?_
        refine jw_aload_n C dL_law_347 rfl (hl.at 1 rfl) ?_
        refine lv_aload_n C.1 C.2.1 dL_law_348 rfl (hl.at 0 rfl) ?_
        refine lv_iload_n C.1 C.2.1 dL_law_349 rfl (hl.at 3 rfl) ?_
        refine lv_iconst (v := 1) C.1 C.2.1 dL_law_350 (by decide) ?_
        refine lv_iadd C.1 C.2.1 dL_law_351 ?_
        obtain ⟨u60, h60, hf⟩ := jm_rd_ok hf
        refine va_sld C.1 C.2.1 hX hbl hbA hS (jm_inL_ok h60) dL_law_352 ?_
        obtain ⟨a61, o61, hf⟩ := jm_rd_ok hf
        obtain ⟨v61, S61, h61, hf⟩ := jm_bd_ok hf
        have e61 := moX7_appliedCount a61 (xs ((x3 + 1) : Int32).toNatClampNeg) _ _ _ h61
        have g61 := jm_mo hf (jm_Mo_rd (fun _ => jm_Mo_rd (fun _ => jm_Mo_bd (moX8_appliedCount _ _) (fun _ => jm_Mo_if (moL_law_18 L xs _ _ _ _) (jm_Mo_rd (fun _ => jm_Mo_ret _))))))
        refine jw_cV (q := (RX7, TX7, 12)) C hJ hS o61 rfl (cX7_appliedCount_C l G a61 (xs ((x3 + 1) : Int32).toNatClampNeg) h61) (cwV 1 C.2.2.2.2.1 gL_law_X7_appliedCount rfl rfl rfl (by decide +kernel) ⟨Nat.le_of_ble_eq_true rfl, Nat.le_of_ble_eq_true rfl⟩) rfl hl.1 rfl (Nat.le_of_ble_eq_true rfl) dL_law_353 ⟨by show cells + 0 ≤ 600000; omega, by show slots + 0 ≤ 7302250; omega⟩ (fun H locs hJ hS => ?_)
        replace hc1 : cells + 0 + n0 ≤ S61.2.1 := by omega
        replace hc2 : slots + 0 + m0 ≤ S61.2.2.1 := by omega
        generalize cells + 0 = cells at hc1 ⊢
        generalize slots + 0 = slots at hc2 ⊢
        refine jw_aload_n C dL_law_356 rfl (hl.at 2 rfl) ?_
        refine lv_aload_n C.1 C.2.1 dL_law_357 rfl (hl.at 0 rfl) ?_
        refine lv_iload_n C.1 C.2.1 dL_law_358 rfl (hl.at 3 rfl) ?_
        refine lv_iconst (v := 1) C.1 C.2.1 dL_law_359 (by decide) ?_
        refine lv_iadd C.1 C.2.1 dL_law_360 ?_
        obtain ⟨u62, h62, hf⟩ := jm_rd_ok hf
        refine va_sld C.1 C.2.1 hX hbl hbA hS (jm_inL_ok h62) dL_law_361 ?_
        obtain ⟨a63, o63, hf⟩ := jm_rd_ok hf
        obtain ⟨v63, S63, h63, hf⟩ := jm_bd_ok hf
        have e63 := moX8_appliedCount a63 (xs ((x3 + 1) : Int32).toNatClampNeg) _ _ _ h63
        have g63 := jm_mo hf (jm_Mo_if (moL_law_18 L xs _ _ _ _) (jm_Mo_rd (fun _ => jm_Mo_ret _)))
        refine jw_cV (q := (RX8, TX8, 29)) C hJ hS o63 rfl (cX8_appliedCount_C l G a63 (xs ((x3 + 1) : Int32).toNatClampNeg) h63) (cwV 1 C.2.2.2.2.1 gL_law_X8_appliedCount rfl rfl rfl (by decide +kernel) ⟨Nat.le_of_ble_eq_true rfl, Nat.le_of_ble_eq_true rfl⟩) rfl hl.1 rfl (Nat.le_of_ble_eq_true rfl) dL_law_362 ⟨by show cells + 0 ≤ 600000; omega, by show slots + 0 ≤ 7302250; omega⟩ (fun H locs hJ hS => ?_)
        replace hc1 : cells + 0 + n0 ≤ S63.2.1 := by omega
        replace hc2 : slots + 0 + m0 ≤ S63.2.2.1 := by omega
        generalize cells + 0 = cells at hc1 ⊢
        generalize slots + 0 = slots at hc2 ⊢
        refine lv_icmp_eq (tgt := 804) C.1 C.2.1 dL_law_365 (by decide) (fun hq64 => ?_) (fun hq64 => ?_)
        · replace hf := jm_ift hf hq64
          refine jw_iinc (v := x3 + 3) C 3 dL_law_804 hl rfl (by rfl) (by decide) rfl (fun ls hl => ?_)
          refine lv_goto (tgt := 18) C.1 C.2.1 dL_law_807 (by decide) ?_
          exact ih x1 x2 (x3 + 3) hf hJ hS (hl.sub [1, 2, 3, 0] rfl) hc1 hc2
        · replace hf := jm_iff hf hq64
          refine lv_iconst (v := 0) C.1 C.2.1 dL_law_368 (by decide) ?_
          obtain ⟨u65, z65, hf⟩ := jm_rd_ok hf
          obtain ⟨hv, rfl⟩ := jm_ret_ok hf
          first
            | exact absurd hv (by decide)
            | exact va_forget (fun q hq => hlo ▸ hS.2.2 q hq) (W.widen (k := 600000) (n := 7302250) (by omega) (by omega) (lw_ret C.1 C.2.1 C.2.2.2.2.2.1 C.2.2.2.2.2.2.1 dL_law_369))
      replace hf := jm_iff hf hs9_9
      by_cases hs9_10 : ((xs (x3 : Int32).toNatClampNeg) &&& 31) = 10
      · replace hf := jm_ift hf hs9_10
        refine lv_tableIn (off := 338) (tgt := 370) C.1 C.2.1 dL_law_32 (by rw [hs9_10]; decide) (by rw [hs9_10]; decide) (by rw [hs9_10]; rfl) (by decide) ?_
        refine jw_aload_n C dL_law_370 rfl (hl.at 1 rfl) ?_
        obtain ⟨a66, o66, hf⟩ := jm_rd_ok hf
        obtain ⟨v66, S66, h66, hf⟩ := jm_bd_ok hf
        have e66 := moX7_committedCount a66 _ _ _ h66
        have g66 := jm_mo hf (jm_Mo_rd (fun _ => jm_Mo_bd (moX8_committedCount _) (fun _ => jm_Mo_if (moL_law_18 L xs _ _ _ _) (jm_Mo_rd (fun _ => jm_Mo_ret _)))))
        refine jw_cV (q := (RX7, TX7, 12)) C hJ hS o66 rfl (cX7_committedCount_C l G a66 h66) (cwV 0 C.2.2.2.2.1 gL_law_X7_committedCount rfl rfl rfl (by decide +kernel) ⟨Nat.le_of_ble_eq_true rfl, Nat.le_of_ble_eq_true rfl⟩) rfl hl.1 rfl (Nat.le_of_ble_eq_true rfl) dL_law_371 ⟨by show cells + 0 ≤ 600000; omega, by show slots + 0 ≤ 7302250; omega⟩ (fun H locs hJ hS => ?_)
        replace hc1 : cells + 0 + n0 ≤ S66.2.1 := by omega
        replace hc2 : slots + 0 + m0 ≤ S66.2.2.1 := by omega
        generalize cells + 0 = cells at hc1 ⊢
        generalize slots + 0 = slots at hc2 ⊢
        refine jw_aload_n C dL_law_374 rfl (hl.at 2 rfl) ?_
        obtain ⟨a67, o67, hf⟩ := jm_rd_ok hf
        obtain ⟨v67, S67, h67, hf⟩ := jm_bd_ok hf
        have e67 := moX8_committedCount a67 _ _ _ h67
        have g67 := jm_mo hf (jm_Mo_if (moL_law_18 L xs _ _ _ _) (jm_Mo_rd (fun _ => jm_Mo_ret _)))
        refine jw_cV (q := (RX8, TX8, 29)) C hJ hS o67 rfl (cX8_committedCount_C l G a67 h67) (cwV 0 C.2.2.2.2.1 gL_law_X8_committedCount rfl rfl rfl (by decide +kernel) ⟨Nat.le_of_ble_eq_true rfl, Nat.le_of_ble_eq_true rfl⟩) rfl hl.1 rfl (Nat.le_of_ble_eq_true rfl) dL_law_375 ⟨by show cells + 0 ≤ 600000; omega, by show slots + 0 ≤ 7302250; omega⟩ (fun H locs hJ hS => ?_)
        replace hc1 : cells + 0 + n0 ≤ S67.2.1 := by omega
        replace hc2 : slots + 0 + m0 ≤ S67.2.2.1 := by omega
        generalize cells + 0 = cells at hc1 ⊢
        generalize slots + 0 = slots at hc2 ⊢
        refine lv_icmp_eq (tgt := 804) C.1 C.2.1 dL_law_378 (by decide) (fun hq68 => ?_) (fun hq68 => ?_)
        · replace hf := jm_ift hf hq68
          refine jw_iinc (v := x3 + 3) C 3 dL_law_804 hl rfl (by rfl) (by decide) rfl (fun ls hl => ?_)
          refine lv_goto (tgt := 18) C.1 C.2.1 dL_law_807 (by decide) ?_
          exact ih x1 x2 (x3 + 3) hf hJ hS (hl.sub [1, 2, 3, 0] rfl) hc1 hc2
        · replace hf := jm_iff hf hq68
          refine lv_iconst (v := 0) C.1 C.2.1 dL_law_381 (by decide) ?_
          obtain ⟨u69, z69, hf⟩ := jm_rd_ok hf
          obtain ⟨hv, rfl⟩ := jm_ret_ok hf
          first
            | exact absurd hv (by decide)
            | exact va_forget (fun q hq => hlo ▸ hS.2.2 q hq) (W.widen (k := 600000) (n := 7302250) (by omega) (by omega) (lw_ret C.1 C.2.1 C.2.2.2.2.2.1 C.2.2.2.2.2.2.1 dL_law_382))
      replace hf := jm_iff hf hs9_10
      by_cases hs9_11 : ((xs (x3 : Int32).toNatClampNeg) &&& 31) = 11
      · replace hf := jm_ift hf hs9_11
        refine lv_tableIn (off := 351) (tgt := 383) C.1 C.2.1 dL_law_32 (by rw [hs9_11]; decide) (by rw [hs9_11]; decide) (by rw [hs9_11]; rfl) (by decide) ?_
        refine jw_aload_n C dL_law_383 rfl (hl.at 1 rfl) ?_
        refine lv_aload_n C.1 C.2.1 dL_law_384 rfl (hl.at 0 rfl) ?_
        refine lv_iload_n C.1 C.2.1 dL_law_385 rfl (hl.at 3 rfl) ?_
        refine lv_iconst (v := 1) C.1 C.2.1 dL_law_386 (by decide) ?_
        refine lv_iadd C.1 C.2.1 dL_law_387 ?_
        obtain ⟨u70, h70, hf⟩ := jm_rd_ok hf
        refine va_sld C.1 C.2.1 hX hbl hbA hS (jm_inL_ok h70) dL_law_388 ?_
        obtain ⟨a71, o71, hf⟩ := jm_rd_ok hf
        obtain ⟨v71, S71, h71, hf⟩ := jm_bd_ok hf
        have e71 := moX7_acceptedEpoch a71 (xs ((x3 + 1) : Int32).toNatClampNeg) _ _ _ h71
        have g71 := jm_mo hf (jm_Mo_rd (fun _ => jm_Mo_rd (fun _ => jm_Mo_bd (moX8_acceptedEpoch _ _) (fun _ => jm_Mo_if (moL_law_18 L xs _ _ _ _) (jm_Mo_rd (fun _ => jm_Mo_ret _))))))
        refine jw_cV (q := (RX7, TX7, 12)) C hJ hS o71 rfl (cX7_acceptedEpoch_C l G a71 (xs ((x3 + 1) : Int32).toNatClampNeg) h71) (cwV 1 C.2.2.2.2.1 gL_law_X7_acceptedEpoch rfl rfl rfl (by decide +kernel) ⟨Nat.le_of_ble_eq_true rfl, Nat.le_of_ble_eq_true rfl⟩) rfl hl.1 rfl (Nat.le_of_ble_eq_true rfl) dL_law_389 ⟨by show cells + 0 ≤ 600000; omega, by show slots + 0 ≤ 7302250; omega⟩ (fun H locs hJ hS => ?_)
        replace hc1 : cells + 0 + n0 ≤ S71.2.1 := by omega
        replace hc2 : slots + 0 + m0 ≤ S71.2.2.1 := by omega
        generalize cells + 0 = cells at hc1 ⊢
        generalize slots + 0 = slots at hc2 ⊢
        refine jw_aload_n C dL_law_392 rfl (hl.at 2 rfl) ?_
        refine lv_aload_n C.1 C.2.1 dL_law_393 rfl (hl.at 0 rfl) ?_
        refine lv_iload_n C.1 C.2.1 dL_law_394 rfl (hl.at 3 rfl) ?_
        refine lv_iconst (v := 1) C.1 C.2.1 dL_law_395 (by decide) ?_
        refine lv_iadd C.1 C.2.1 dL_law_396 ?_
        obtain ⟨u72, h72, hf⟩ := jm_rd_ok hf
        refine va_sld C.1 C.2.1 hX hbl hbA hS (jm_inL_ok h72) dL_law_397 ?_
        obtain ⟨a73, o73, hf⟩ := jm_rd_ok hf
        obtain ⟨v73, S73, h73, hf⟩ := jm_bd_ok hf
        have e73 := moX8_acceptedEpoch a73 (xs ((x3 + 1) : Int32).toNatClampNeg) _ _ _ h73
        have g73 := jm_mo hf (jm_Mo_if (moL_law_18 L xs _ _ _ _) (jm_Mo_rd (fun _ => jm_Mo_ret _)))
        refine jw_cV (q := (RX8, TX8, 29)) C hJ hS o73 rfl (cX8_acceptedEpoch_C l G a73 (xs ((x3 + 1) : Int32).toNatClampNeg) h73) (cwV 1 C.2.2.2.2.1 gL_law_X8_acceptedEpoch rfl rfl rfl (by decide +kernel) ⟨Nat.le_of_ble_eq_true rfl, Nat.le_of_ble_eq_true rfl⟩) rfl hl.1 rfl (Nat.le_of_ble_eq_true rfl) dL_law_398 ⟨by show cells + 0 ≤ 600000; omega, by show slots + 0 ≤ 7302250; omega⟩ (fun H locs hJ hS => ?_)
        replace hc1 : cells + 0 + n0 ≤ S73.2.1 := by omega
        replace hc2 : slots + 0 + m0 ≤ S73.2.2.1 := by omega
        generalize cells + 0 = cells at hc1 ⊢
        generalize slots + 0 = slots at hc2 ⊢
        refine lv_icmp_eq (tgt := 804) C.1 C.2.1 dL_law_401 (by decide) (fun hq74 => ?_) (fun hq74 => ?_)
        · replace hf := jm_ift hf hq74
          refine jw_iinc (v := x3 + 3) C 3 dL_law_804 hl rfl (by rfl) (by decide) rfl (fun ls hl => ?_)
          refine lv_goto (tgt := 18) C.1 C.2.1 dL_law_807 (by decide) ?_
          exact ih x1 x2 (x3 + 3) hf hJ hS (hl.sub [1, 2, 3, 0] rfl) hc1 hc2
        · replace hf := jm_iff hf hq74
          refine lv_iconst (v := 0) C.1 C.2.1 dL_law_404 (by decide) ?_
          obtain ⟨u75, z75, hf⟩ := jm_rd_ok hf
          obtain ⟨hv, rfl⟩ := jm_ret_ok hf
          first
            | exact absurd hv (by decide)
            | exact va_forget (fun q hq => hlo ▸ hS.2.2 q hq) (W.widen (k := 600000) (n := 7302250) (by omega) (by omega) (lw_ret C.1 C.2.1 C.2.2.2.2.2.1 C.2.2.2.2.2.2.1 dL_law_405))
      replace hf := jm_iff hf hs9_11
      by_cases hs9_12 : ((xs (x3 : Int32).toNatClampNeg) &&& 31) = 12
      · replace hf := jm_ift hf hs9_12
        refine lv_tableIn (off := 374) (tgt := 406) C.1 C.2.1 dL_law_32 (by rw [hs9_12]; decide) (by rw [hs9_12]; decide) (by rw [hs9_12]; rfl) (by decide) ?_
        refine jw_aload_n C dL_law_406 rfl (hl.at 1 rfl) ?_
        refine lv_aload_n C.1 C.2.1 dL_law_407 rfl (hl.at 0 rfl) ?_
        refine lv_iload_n C.1 C.2.1 dL_law_408 rfl (hl.at 3 rfl) ?_
        refine lv_iconst (v := 1) C.1 C.2.1 dL_law_409 (by decide) ?_
        refine lv_iadd C.1 C.2.1 dL_law_410 ?_
        obtain ⟨u76, h76, hf⟩ := jm_rd_ok hf
        refine va_sld C.1 C.2.1 hX hbl hbA hS (jm_inL_ok h76) dL_law_411 ?_
        obtain ⟨a77, o77, hf⟩ := jm_rd_ok hf
        obtain ⟨v77, S77, h77, hf⟩ := jm_bd_ok hf
        have e77 := moX7_appendName a77 (xs ((x3 + 1) : Int32).toNatClampNeg) _ _ _ h77
        have g77 := jm_mo hf (jm_Mo_rd (fun _ => jm_Mo_rd (fun _ => jm_Mo_bd (moX8_appendName _ _) (fun _ => jm_Mo_if (moL_law_18 L xs _ _ _ _) (jm_Mo_rd (fun _ => jm_Mo_ret _))))))
        refine jw_cV (q := (RX7, TX7, 12)) C hJ hS o77 rfl (cX7_appendName_C l G a77 (xs ((x3 + 1) : Int32).toNatClampNeg) h77) (cwV 1 C.2.2.2.2.1 gL_law_X7_appendName rfl rfl rfl (by decide +kernel) ⟨Nat.le_of_ble_eq_true rfl, Nat.le_of_ble_eq_true rfl⟩) rfl hl.1 rfl (Nat.le_of_ble_eq_true rfl) dL_law_412 ⟨by show cells + 0 ≤ 600000; omega, by show slots + 0 ≤ 7302250; omega⟩ (fun H locs hJ hS => ?_)
        replace hc1 : cells + 0 + n0 ≤ S77.2.1 := by omega
        replace hc2 : slots + 0 + m0 ≤ S77.2.2.1 := by omega
        generalize cells + 0 = cells at hc1 ⊢
        generalize slots + 0 = slots at hc2 ⊢
        refine jw_aload_n C dL_law_415 rfl (hl.at 2 rfl) ?_
        refine lv_aload_n C.1 C.2.1 dL_law_416 rfl (hl.at 0 rfl) ?_
        refine lv_iload_n C.1 C.2.1 dL_law_417 rfl (hl.at 3 rfl) ?_
        refine lv_iconst (v := 1) C.1 C.2.1 dL_law_418 (by decide) ?_
        refine lv_iadd C.1 C.2.1 dL_law_419 ?_
        obtain ⟨u78, h78, hf⟩ := jm_rd_ok hf
        refine va_sld C.1 C.2.1 hX hbl hbA hS (jm_inL_ok h78) dL_law_420 ?_
        obtain ⟨a79, o79, hf⟩ := jm_rd_ok hf
        obtain ⟨v79, S79, h79, hf⟩ := jm_bd_ok hf
        have e79 := moX8_appendName a79 (xs ((x3 + 1) : Int32).toNatClampNeg) _ _ _ h79
        have g79 := jm_mo hf (jm_Mo_if (moL_law_18 L xs _ _ _ _) (jm_Mo_rd (fun _ => jm_Mo_ret _)))
        refine jw_cV (q := (RX8, TX8, 29)) C hJ hS o79 rfl (cX8_appendName_C l G a79 (xs ((x3 + 1) : Int32).toNatClampNeg) h79) (cwV 1 C.2.2.2.2.1 gL_law_X8_appendName rfl rfl rfl (by decide +kernel) ⟨Nat.le_of_ble_eq_true rfl, Nat.le_of_ble_eq_true rfl⟩) rfl hl.1 rfl (Nat.le_of_ble_eq_true rfl) dL_law_421 ⟨by show cells + 0 ≤ 600000; omega, by show slots + 0 ≤ 7302250; omega⟩ (fun H locs hJ hS => ?_)
        replace hc1 : cells + 0 + n0 ≤ S79.2.1 := by omega
        replace hc2 : slots + 0 + m0 ≤ S79.2.2.1 := by omega
        generalize cells + 0 = cells at hc1 ⊢
        generalize slots + 0 = slots at hc2 ⊢
        refine lv_icmp_eq (tgt := 804) C.1 C.2.1 dL_law_424 (by decide) (fun hq80 => ?_) (fun hq80 => ?_)
        · replace hf := jm_ift hf hq80
          refine jw_iinc (v := x3 + 3) C 3 dL_law_804 hl rfl (by rfl) (by decide) rfl (fun ls hl => ?_)
          refine lv_goto (tgt := 18) C.1 C.2.1 dL_law_807 (by decide) ?_
          exact ih x1 x2 (x3 + 3) hf hJ hS (hl.sub [1, 2, 3, 0] rfl) hc1 hc2
        · replace hf := jm_iff hf hq80
          refine lv_iconst (v := 0) C.1 C.2.1 dL_law_427 (by decide) ?_
          obtain ⟨u81, z81, hf⟩ := jm_rd_ok hf
          obtain ⟨hv, rfl⟩ := jm_ret_ok hf
          first
            | exact absurd hv (by decide)
            | exact va_forget (fun q hq => hlo ▸ hS.2.2 q hq) (W.widen (k := 600000) (n := 7302250) (by omega) (by omega) (lw_ret C.1 C.2.1 C.2.2.2.2.2.1 C.2.2.2.2.2.2.1 dL_law_428))
      replace hf := jm_iff hf hs9_12
      by_cases hs9_13 : ((xs (x3 : Int32).toNatClampNeg) &&& 31) = 13
      · replace hf := jm_ift hf hs9_13
        refine lv_tableIn (off := 397) (tgt := 429) C.1 C.2.1 dL_law_32 (by rw [hs9_13]; decide) (by rw [hs9_13]; decide) (by rw [hs9_13]; rfl) (by decide) ?_
        refine jw_aload_n C dL_law_429 rfl (hl.at 1 rfl) ?_
        obtain ⟨a82, o82, hf⟩ := jm_rd_ok hf
        obtain ⟨v82, S82, h82, hf⟩ := jm_bd_ok hf
        have e82 := moX7_clearPath a82 _ _ _ h82
        have g82 := jm_mo hf (jm_Mo_rd (fun _ => jm_Mo_bd (moX8_clearPath _) (fun _ => jm_Mo_if (moL_law_18 L xs _ _ _ _) (jm_Mo_rd (fun _ => jm_Mo_ret _)))))
        refine jw_cV (q := (RX7, TX7, 12)) C hJ hS o82 rfl (cX7_clearPath_C l G a82 h82) (cwV 0 C.2.2.2.2.1 gL_law_X7_clearPath rfl rfl rfl (by decide +kernel) ⟨Nat.le_of_ble_eq_true rfl, Nat.le_of_ble_eq_true rfl⟩) rfl hl.1 rfl (Nat.le_of_ble_eq_true rfl) dL_law_430 ⟨by show cells + 0 ≤ 600000; omega, by show slots + 0 ≤ 7302250; omega⟩ (fun H locs hJ hS => ?_)
        replace hc1 : cells + 0 + n0 ≤ S82.2.1 := by omega
        replace hc2 : slots + 0 + m0 ≤ S82.2.2.1 := by omega
        generalize cells + 0 = cells at hc1 ⊢
        generalize slots + 0 = slots at hc2 ⊢
        refine jw_aload_n C dL_law_433 rfl (hl.at 2 rfl) ?_
        obtain ⟨a83, o83, hf⟩ := jm_rd_ok hf
        obtain ⟨v83, S83, h83, hf⟩ := jm_bd_ok hf
        have e83 := moX8_clearPath a83 _ _ _ h83
        have g83 := jm_mo hf (jm_Mo_if (moL_law_18 L xs _ _ _ _) (jm_Mo_rd (fun _ => jm_Mo_ret _)))
        refine jw_cV (q := (RX8, TX8, 29)) C hJ hS o83 rfl (cX8_clearPath_C l G a83 h83) (cwV 0 C.2.2.2.2.1 gL_law_X8_clearPath rfl rfl rfl (by decide +kernel) ⟨Nat.le_of_ble_eq_true rfl, Nat.le_of_ble_eq_true rfl⟩) rfl hl.1 rfl (Nat.le_of_ble_eq_true rfl) dL_law_434 ⟨by show cells + 0 ≤ 600000; omega, by show slots + 0 ≤ 7302250; omega⟩ (fun H locs hJ hS => ?_)
        replace hc1 : cells + 0 + n0 ≤ S83.2.1 := by omega
        replace hc2 : slots + 0 + m0 ≤ S83.2.2.1 := by omega
        generalize cells + 0 = cells at hc1 ⊢
        generalize slots + 0 = slots at hc2 ⊢
        refine lv_icmp_eq (tgt := 804) C.1 C.2.1 dL_law_437 (by decide) (fun hq84 => ?_) (fun hq84 => ?_)
        · replace hf := jm_ift hf hq84
          refine jw_iinc (v := x3 + 3) C 3 dL_law_804 hl rfl (by rfl) (by decide) rfl (fun ls hl => ?_)
          refine lv_goto (tgt := 18) C.1 C.2.1 dL_law_807 (by decide) ?_
          exact ih x1 x2 (x3 + 3) hf hJ hS (hl.sub [1, 2, 3, 0] rfl) hc1 hc2
        · replace hf := jm_iff hf hq84
          refine lv_iconst (v := 0) C.1 C.2.1 dL_law_440 (by decide) ?_
          obtain ⟨u85, z85, hf⟩ := jm_rd_ok hf
          obtain ⟨hv, rfl⟩ := jm_ret_ok hf
          first
            | exact absurd hv (by decide)
            | exact va_forget (fun q hq => hlo ▸ hS.2.2 q hq) (W.widen (k := 600000) (n := 7302250) (by omega) (by omega) (lw_ret C.1 C.2.1 C.2.2.2.2.2.1 C.2.2.2.2.2.2.1 dL_law_441))
      replace hf := jm_iff hf hs9_13
      by_cases hs9_14 : ((xs (x3 : Int32).toNatClampNeg) &&& 31) = 14
      · replace hf := jm_ift hf hs9_14
        refine lv_tableIn (off := 410) (tgt := 442) C.1 C.2.1 dL_law_32 (by rw [hs9_14]; decide) (by rw [hs9_14]; decide) (by rw [hs9_14]; rfl) (by decide) ?_
        refine jw_aload_n C dL_law_442 rfl (hl.at 1 rfl) ?_
        refine lv_aload_n C.1 C.2.1 dL_law_443 rfl (hl.at 0 rfl) ?_
        refine lv_iload_n C.1 C.2.1 dL_law_444 rfl (hl.at 3 rfl) ?_
        refine lv_iconst (v := 1) C.1 C.2.1 dL_law_445 (by decide) ?_
        refine lv_iadd C.1 C.2.1 dL_law_446 ?_
        obtain ⟨u86, h86, hf⟩ := jm_rd_ok hf
        refine va_sld C.1 C.2.1 hX hbl hbA hS (jm_inL_ok h86) dL_law_447 ?_
        refine lv_aload_n C.1 C.2.1 dL_law_448 rfl (hl.at 0 rfl) ?_
        refine lv_iload_n C.1 C.2.1 dL_law_449 rfl (hl.at 3 rfl) ?_
        refine lv_iconst (v := 2) C.1 C.2.1 dL_law_450 (by decide) ?_
        refine lv_iadd C.1 C.2.1 dL_law_451 ?_
        obtain ⟨u87, h87, hf⟩ := jm_rd_ok hf
        refine va_sld C.1 C.2.1 hX hbl hbA hS (jm_inL_ok h87) dL_law_452 ?_
        obtain ⟨a88, o88, hf⟩ := jm_rd_ok hf
        obtain ⟨v88, S88, h88, hf⟩ := jm_bd_ok hf
        have e88 := moX7_create a88 (xs ((x3 + 1) : Int32).toNatClampNeg) (xs ((x3 + 2) : Int32).toNatClampNeg) _ _ _ h88
        have g88 := jm_mo hf (jm_Mo_rd (fun _ => jm_Mo_rd (fun _ => jm_Mo_rd (fun _ => jm_Mo_bd (moX8_create _ _ _) (fun _ => jm_Mo_if (moL_law_18 L xs _ _ _ _) (jm_Mo_rd (fun _ => jm_Mo_ret _)))))))
        refine jw_cV (q := (RX7, TX7, 12)) C hJ hS o88 rfl (cX7_create_C l G a88 (xs ((x3 + 1) : Int32).toNatClampNeg) (xs ((x3 + 2) : Int32).toNatClampNeg) h88 (S88.2.1 - S.2.1) (S88.2.2.1 - S.2.2.1) (by omega) (by omega)) (cwV 2 C.2.2.2.2.1 gL_law_X7_create rfl rfl rfl (by decide +kernel) ⟨Nat.le_of_ble_eq_true rfl, Nat.le_of_ble_eq_true rfl⟩) rfl hl.1 rfl (Nat.le_of_ble_eq_true rfl) dL_law_453 ⟨by show cells + _ ≤ 600000; omega, by show slots + _ ≤ 7302250; omega⟩ (fun H locs hJ hS => ?_)
        replace hc1 : cells + (S88.2.1 - S.2.1) + n0 ≤ S88.2.1 := by omega
        replace hc2 : slots + (S88.2.2.1 - S.2.2.1) + m0 ≤ S88.2.2.1 := by omega
        generalize cells + (S88.2.1 - S.2.1) = cells at hc1 ⊢
        generalize slots + (S88.2.2.1 - S.2.2.1) = slots at hc2 ⊢
        refine jw_aload_n C dL_law_456 rfl (hl.at 2 rfl) ?_
        refine lv_aload_n C.1 C.2.1 dL_law_457 rfl (hl.at 0 rfl) ?_
        refine lv_iload_n C.1 C.2.1 dL_law_458 rfl (hl.at 3 rfl) ?_
        refine lv_iconst (v := 1) C.1 C.2.1 dL_law_459 (by decide) ?_
        refine lv_iadd C.1 C.2.1 dL_law_460 ?_
        obtain ⟨u89, h89, hf⟩ := jm_rd_ok hf
        refine va_sld C.1 C.2.1 hX hbl hbA hS (jm_inL_ok h89) dL_law_461 ?_
        refine lv_aload_n C.1 C.2.1 dL_law_462 rfl (hl.at 0 rfl) ?_
        refine lv_iload_n C.1 C.2.1 dL_law_463 rfl (hl.at 3 rfl) ?_
        refine lv_iconst (v := 2) C.1 C.2.1 dL_law_464 (by decide) ?_
        refine lv_iadd C.1 C.2.1 dL_law_465 ?_
        obtain ⟨u90, h90, hf⟩ := jm_rd_ok hf
        refine va_sld C.1 C.2.1 hX hbl hbA hS (jm_inL_ok h90) dL_law_466 ?_
        obtain ⟨a91, o91, hf⟩ := jm_rd_ok hf
        obtain ⟨v91, S91, h91, hf⟩ := jm_bd_ok hf
        have e91 := moX8_create a91 (xs ((x3 + 1) : Int32).toNatClampNeg) (xs ((x3 + 2) : Int32).toNatClampNeg) _ _ _ h91
        have g91 := jm_mo hf (jm_Mo_if (moL_law_18 L xs _ _ _ _) (jm_Mo_rd (fun _ => jm_Mo_ret _)))
        refine jw_cV (q := (RX8, TX8, 29)) C hJ hS o91 rfl (cX8_create_C l G a91 (xs ((x3 + 1) : Int32).toNatClampNeg) (xs ((x3 + 2) : Int32).toNatClampNeg) h91) (cwV 2 C.2.2.2.2.1 gL_law_X8_create rfl rfl rfl (by decide +kernel) ⟨Nat.le_of_ble_eq_true rfl, Nat.le_of_ble_eq_true rfl⟩) rfl hl.1 rfl (Nat.le_of_ble_eq_true rfl) dL_law_467 ⟨by show cells + 0 ≤ 600000; omega, by show slots + 0 ≤ 7302250; omega⟩ (fun H locs hJ hS => ?_)
        replace hc1 : cells + 0 + n0 ≤ S91.2.1 := by omega
        replace hc2 : slots + 0 + m0 ≤ S91.2.2.1 := by omega
        generalize cells + 0 = cells at hc1 ⊢
        generalize slots + 0 = slots at hc2 ⊢
        refine lv_icmp_eq (tgt := 804) C.1 C.2.1 dL_law_470 (by decide) (fun hq92 => ?_) (fun hq92 => ?_)
        · replace hf := jm_ift hf hq92
          refine jw_iinc (v := x3 + 3) C 3 dL_law_804 hl rfl (by rfl) (by decide) rfl (fun ls hl => ?_)
          refine lv_goto (tgt := 18) C.1 C.2.1 dL_law_807 (by decide) ?_
          exact ih x1 x2 (x3 + 3) hf hJ hS (hl.sub [1, 2, 3, 0] rfl) hc1 hc2
        · replace hf := jm_iff hf hq92
          refine lv_iconst (v := 0) C.1 C.2.1 dL_law_473 (by decide) ?_
          obtain ⟨u93, z93, hf⟩ := jm_rd_ok hf
          obtain ⟨hv, rfl⟩ := jm_ret_ok hf
          first
            | exact absurd hv (by decide)
            | exact va_forget (fun q hq => hlo ▸ hS.2.2 q hq) (W.widen (k := 600000) (n := 7302250) (by omega) (by omega) (lw_ret C.1 C.2.1 C.2.2.2.2.2.1 C.2.2.2.2.2.2.1 dL_law_474))
      replace hf := jm_iff hf hs9_14
      by_cases hs9_15 : ((xs (x3 : Int32).toNatClampNeg) &&& 31) = 15
      · replace hf := jm_ift hf hs9_15
        refine lv_tableIn (off := 443) (tgt := 475) C.1 C.2.1 dL_law_32 (by rw [hs9_15]; decide) (by rw [hs9_15]; decide) (by rw [hs9_15]; rfl) (by decide) ?_
        refine jw_aload_n C dL_law_475 rfl (hl.at 1 rfl) ?_
        refine lv_aload_n C.1 C.2.1 dL_law_476 rfl (hl.at 0 rfl) ?_
        refine lv_iload_n C.1 C.2.1 dL_law_477 rfl (hl.at 3 rfl) ?_
        refine lv_iconst (v := 1) C.1 C.2.1 dL_law_478 (by decide) ?_
        refine lv_iadd C.1 C.2.1 dL_law_479 ?_
        obtain ⟨u94, h94, hf⟩ := jm_rd_ok hf
        refine va_sld C.1 C.2.1 hX hbl hbA hS (jm_inL_ok h94) dL_law_480 ?_
        refine lv_aload_n C.1 C.2.1 dL_law_481 rfl (hl.at 0 rfl) ?_
        refine lv_iload_n C.1 C.2.1 dL_law_482 rfl (hl.at 3 rfl) ?_
        refine lv_iconst (v := 2) C.1 C.2.1 dL_law_483 (by decide) ?_
        refine lv_iadd C.1 C.2.1 dL_law_484 ?_
        obtain ⟨u95, h95, hf⟩ := jm_rd_ok hf
        refine va_sld C.1 C.2.1 hX hbl hbA hS (jm_inL_ok h95) dL_law_485 ?_
        obtain ⟨a96, o96, hf⟩ := jm_rd_ok hf
        obtain ⟨v96, S96, h96, hf⟩ := jm_bd_ok hf
        have e96 := moX7_setData a96 (xs ((x3 + 1) : Int32).toNatClampNeg) (xs ((x3 + 2) : Int32).toNatClampNeg) _ _ _ h96
        have g96 := jm_mo hf (jm_Mo_rd (fun _ => jm_Mo_rd (fun _ => jm_Mo_rd (fun _ => jm_Mo_bd (moX8_setData _ _ _) (fun _ => jm_Mo_if (moL_law_18 L xs _ _ _ _) (jm_Mo_rd (fun _ => jm_Mo_ret _)))))))
        refine jw_cV (q := (RX7, TX7, 12)) C hJ hS o96 rfl (cX7_setData_C l G a96 (xs ((x3 + 1) : Int32).toNatClampNeg) (xs ((x3 + 2) : Int32).toNatClampNeg) h96 (S96.2.1 - S.2.1) (S96.2.2.1 - S.2.2.1) (by omega) (by omega)) (cwV 2 C.2.2.2.2.1 gL_law_X7_setData rfl rfl rfl (by decide +kernel) ⟨Nat.le_of_ble_eq_true rfl, Nat.le_of_ble_eq_true rfl⟩) rfl hl.1 rfl (Nat.le_of_ble_eq_true rfl) dL_law_486 ⟨by show cells + _ ≤ 600000; omega, by show slots + _ ≤ 7302250; omega⟩ (fun H locs hJ hS => ?_)
        replace hc1 : cells + (S96.2.1 - S.2.1) + n0 ≤ S96.2.1 := by omega
        replace hc2 : slots + (S96.2.2.1 - S.2.2.1) + m0 ≤ S96.2.2.1 := by omega
        generalize cells + (S96.2.1 - S.2.1) = cells at hc1 ⊢
        generalize slots + (S96.2.2.1 - S.2.2.1) = slots at hc2 ⊢
        refine jw_aload_n C dL_law_489 rfl (hl.at 2 rfl) ?_
        refine lv_aload_n C.1 C.2.1 dL_law_490 rfl (hl.at 0 rfl) ?_
        refine lv_iload_n C.1 C.2.1 dL_law_491 rfl (hl.at 3 rfl) ?_
        refine lv_iconst (v := 1) C.1 C.2.1 dL_law_492 (by decide) ?_
        refine lv_iadd C.1 C.2.1 dL_law_493 ?_
        obtain ⟨u97, h97, hf⟩ := jm_rd_ok hf
        refine va_sld C.1 C.2.1 hX hbl hbA hS (jm_inL_ok h97) dL_law_494 ?_
        refine lv_aload_n C.1 C.2.1 dL_law_495 rfl (hl.at 0 rfl) ?_
        refine lv_iload_n C.1 C.2.1 dL_law_496 rfl (hl.at 3 rfl) ?_
        refine lv_iconst (v := 2) C.1 C.2.1 dL_law_497 (by decide) ?_
        refine lv_iadd C.1 C.2.1 dL_law_498 ?_
        obtain ⟨u98, h98, hf⟩ := jm_rd_ok hf
        refine va_sld C.1 C.2.1 hX hbl hbA hS (jm_inL_ok h98) dL_law_499 ?_
        obtain ⟨a99, o99, hf⟩ := jm_rd_ok hf
        obtain ⟨v99, S99, h99, hf⟩ := jm_bd_ok hf
        have e99 := moX8_setData a99 (xs ((x3 + 1) : Int32).toNatClampNeg) (xs ((x3 + 2) : Int32).toNatClampNeg) _ _ _ h99
        have g99 := jm_mo hf (jm_Mo_if (moL_law_18 L xs _ _ _ _) (jm_Mo_rd (fun _ => jm_Mo_ret _)))
        refine jw_cV (q := (RX8, TX8, 29)) C hJ hS o99 rfl (cX8_setData_C l G a99 (xs ((x3 + 1) : Int32).toNatClampNeg) (xs ((x3 + 2) : Int32).toNatClampNeg) h99) (cwV 2 C.2.2.2.2.1 gL_law_X8_setData rfl rfl rfl (by decide +kernel) ⟨Nat.le_of_ble_eq_true rfl, Nat.le_of_ble_eq_true rfl⟩) rfl hl.1 rfl (Nat.le_of_ble_eq_true rfl) dL_law_500 ⟨by show cells + 0 ≤ 600000; omega, by show slots + 0 ≤ 7302250; omega⟩ (fun H locs hJ hS => ?_)
        replace hc1 : cells + 0 + n0 ≤ S99.2.1 := by omega
        replace hc2 : slots + 0 + m0 ≤ S99.2.2.1 := by omega
        generalize cells + 0 = cells at hc1 ⊢
        generalize slots + 0 = slots at hc2 ⊢
        refine lv_icmp_eq (tgt := 804) C.1 C.2.1 dL_law_503 (by decide) (fun hq100 => ?_) (fun hq100 => ?_)
        · replace hf := jm_ift hf hq100
          refine jw_iinc (v := x3 + 3) C 3 dL_law_804 hl rfl (by rfl) (by decide) rfl (fun ls hl => ?_)
          refine lv_goto (tgt := 18) C.1 C.2.1 dL_law_807 (by decide) ?_
          exact ih x1 x2 (x3 + 3) hf hJ hS (hl.sub [1, 2, 3, 0] rfl) hc1 hc2
        · replace hf := jm_iff hf hq100
          refine lv_iconst (v := 0) C.1 C.2.1 dL_law_506 (by decide) ?_
          obtain ⟨u101, z101, hf⟩ := jm_rd_ok hf
          obtain ⟨hv, rfl⟩ := jm_ret_ok hf
          first
            | exact absurd hv (by decide)
            | exact va_forget (fun q hq => hlo ▸ hS.2.2 q hq) (W.widen (k := 600000) (n := 7302250) (by omega) (by omega) (lw_ret C.1 C.2.1 C.2.2.2.2.2.1 C.2.2.2.2.2.2.1 dL_law_507))
      replace hf := jm_iff hf hs9_15
      by_cases hs9_16 : ((xs (x3 : Int32).toNatClampNeg) &&& 31) = 16
      · replace hf := jm_ift hf hs9_16
        refine lv_tableIn (off := 476) (tgt := 508) C.1 C.2.1 dL_law_32 (by rw [hs9_16]; decide) (by rw [hs9_16]; decide) (by rw [hs9_16]; rfl) (by decide) ?_
        refine jw_aload_n C dL_law_508 rfl (hl.at 1 rfl) ?_
        refine lv_aload_n C.1 C.2.1 dL_law_509 rfl (hl.at 0 rfl) ?_
        refine lv_iload_n C.1 C.2.1 dL_law_510 rfl (hl.at 3 rfl) ?_
        refine lv_iconst (v := 1) C.1 C.2.1 dL_law_511 (by decide) ?_
        refine lv_iadd C.1 C.2.1 dL_law_512 ?_
        obtain ⟨u102, h102, hf⟩ := jm_rd_ok hf
        refine va_sld C.1 C.2.1 hX hbl hbA hS (jm_inL_ok h102) dL_law_513 ?_
        obtain ⟨a103, o103, hf⟩ := jm_rd_ok hf
        obtain ⟨v103, S103, h103, hf⟩ := jm_bd_ok hf
        have e103 := moX7_delete a103 (xs ((x3 + 1) : Int32).toNatClampNeg) _ _ _ h103
        have g103 := jm_mo hf (jm_Mo_rd (fun _ => jm_Mo_rd (fun _ => jm_Mo_bd (moX8_delete _ _) (fun _ => jm_Mo_if (moL_law_18 L xs _ _ _ _) (jm_Mo_rd (fun _ => jm_Mo_ret _))))))
        refine jw_cV (q := (RX7, TX7, 12)) C hJ hS o103 rfl (cX7_delete_C l G a103 (xs ((x3 + 1) : Int32).toNatClampNeg) h103 (S103.2.1 - S.2.1) (S103.2.2.1 - S.2.2.1) (by omega) (by omega)) (cwV 1 C.2.2.2.2.1 gL_law_X7_delete rfl rfl rfl (by decide +kernel) ⟨Nat.le_of_ble_eq_true rfl, Nat.le_of_ble_eq_true rfl⟩) rfl hl.1 rfl (Nat.le_of_ble_eq_true rfl) dL_law_514 ⟨by show cells + _ ≤ 600000; omega, by show slots + _ ≤ 7302250; omega⟩ (fun H locs hJ hS => ?_)
        replace hc1 : cells + (S103.2.1 - S.2.1) + n0 ≤ S103.2.1 := by omega
        replace hc2 : slots + (S103.2.2.1 - S.2.2.1) + m0 ≤ S103.2.2.1 := by omega
        generalize cells + (S103.2.1 - S.2.1) = cells at hc1 ⊢
        generalize slots + (S103.2.2.1 - S.2.2.1) = slots at hc2 ⊢
        refine jw_aload_n C dL_law_517 rfl (hl.at 2 rfl) ?_
        refine lv_aload_n C.1 C.2.1 dL_law_518 rfl (hl.at 0 rfl) ?_
        refine lv_iload_n C.1 C.2.1 dL_law_519 rfl (hl.at 3 rfl) ?_
        refine lv_iconst (v := 1) C.1 C.2.1 dL_law_520 (by decide) ?_
        refine lv_iadd C.1 C.2.1 dL_law_521 ?_
        obtain ⟨u104, h104, hf⟩ := jm_rd_ok hf
        refine va_sld C.1 C.2.1 hX hbl hbA hS (jm_inL_ok h104) dL_law_522 ?_
        obtain ⟨a105, o105, hf⟩ := jm_rd_ok hf
        obtain ⟨v105, S105, h105, hf⟩ := jm_bd_ok hf
        have e105 := moX8_delete a105 (xs ((x3 + 1) : Int32).toNatClampNeg) _ _ _ h105
        have g105 := jm_mo hf (jm_Mo_if (moL_law_18 L xs _ _ _ _) (jm_Mo_rd (fun _ => jm_Mo_ret _)))
        refine jw_cV (q := (RX8, TX8, 29)) C hJ hS o105 rfl (cX8_delete_C l G a105 (xs ((x3 + 1) : Int32).toNatClampNeg) h105) (cwV 1 C.2.2.2.2.1 gL_law_X8_delete rfl rfl rfl (by decide +kernel) ⟨Nat.le_of_ble_eq_true rfl, Nat.le_of_ble_eq_true rfl⟩) rfl hl.1 rfl (Nat.le_of_ble_eq_true rfl) dL_law_523 ⟨by show cells + 0 ≤ 600000; omega, by show slots + 0 ≤ 7302250; omega⟩ (fun H locs hJ hS => ?_)
        replace hc1 : cells + 0 + n0 ≤ S105.2.1 := by omega
        replace hc2 : slots + 0 + m0 ≤ S105.2.2.1 := by omega
        generalize cells + 0 = cells at hc1 ⊢
        generalize slots + 0 = slots at hc2 ⊢
        refine lv_icmp_eq (tgt := 804) C.1 C.2.1 dL_law_526 (by decide) (fun hq106 => ?_) (fun hq106 => ?_)
        · replace hf := jm_ift hf hq106
          refine jw_iinc (v := x3 + 3) C 3 dL_law_804 hl rfl (by rfl) (by decide) rfl (fun ls hl => ?_)
          refine lv_goto (tgt := 18) C.1 C.2.1 dL_law_807 (by decide) ?_
          exact ih x1 x2 (x3 + 3) hf hJ hS (hl.sub [1, 2, 3, 0] rfl) hc1 hc2
        · replace hf := jm_iff hf hq106
          refine lv_iconst (v := 0) C.1 C.2.1 dL_law_529 (by decide) ?_
          obtain ⟨u107, z107, hf⟩ := jm_rd_ok hf
          obtain ⟨hv, rfl⟩ := jm_ret_ok hf
          first
            | exact absurd hv (by decide)
            | exact va_forget (fun q hq => hlo ▸ hS.2.2 q hq) (W.widen (k := 600000) (n := 7302250) (by omega) (by omega) (lw_ret C.1 C.2.1 C.2.2.2.2.2.1 C.2.2.2.2.2.2.1 dL_law_530))
      replace hf := jm_iff hf hs9_16
      by_cases hs9_17 : ((xs (x3 : Int32).toNatClampNeg) &&& 31) = 17
      · replace hf := jm_ift hf hs9_17
        refine lv_tableIn (off := 499) (tgt := 531) C.1 C.2.1 dL_law_32 (by rw [hs9_17]; decide) (by rw [hs9_17]; decide) (by rw [hs9_17]; rfl) (by decide) ?_
        refine jw_aload_n C dL_law_531 rfl (hl.at 1 rfl) ?_
        obtain ⟨a108, o108, hf⟩ := jm_rd_ok hf
        obtain ⟨v108, S108, h108, hf⟩ := jm_bd_ok hf
        have e108 := moX7_openSession a108 _ _ _ h108
        have g108 := jm_mo hf (jm_Mo_rd (fun _ => jm_Mo_bd (moX8_openSession _) (fun _ => jm_Mo_if (moL_law_18 L xs _ _ _ _) (jm_Mo_rd (fun _ => jm_Mo_ret _)))))
        refine jw_cV (q := (RX7, TX7, 12)) C hJ hS o108 rfl (cX7_openSession_C l G a108 h108) (cwV 0 C.2.2.2.2.1 gL_law_X7_openSession rfl rfl rfl (by decide +kernel) ⟨Nat.le_of_ble_eq_true rfl, Nat.le_of_ble_eq_true rfl⟩) rfl hl.1 rfl (Nat.le_of_ble_eq_true rfl) dL_law_532 ⟨by show cells + 0 ≤ 600000; omega, by show slots + 0 ≤ 7302250; omega⟩ (fun H locs hJ hS => ?_)
        replace hc1 : cells + 0 + n0 ≤ S108.2.1 := by omega
        replace hc2 : slots + 0 + m0 ≤ S108.2.2.1 := by omega
        generalize cells + 0 = cells at hc1 ⊢
        generalize slots + 0 = slots at hc2 ⊢
        refine jw_aload_n C dL_law_535 rfl (hl.at 2 rfl) ?_
        obtain ⟨a109, o109, hf⟩ := jm_rd_ok hf
        obtain ⟨v109, S109, h109, hf⟩ := jm_bd_ok hf
        have e109 := moX8_openSession a109 _ _ _ h109
        have g109 := jm_mo hf (jm_Mo_if (moL_law_18 L xs _ _ _ _) (jm_Mo_rd (fun _ => jm_Mo_ret _)))
        refine jw_cV (q := (RX8, TX8, 29)) C hJ hS o109 rfl (cX8_openSession_C l G a109 h109) (cwV 0 C.2.2.2.2.1 gL_law_X8_openSession rfl rfl rfl (by decide +kernel) ⟨Nat.le_of_ble_eq_true rfl, Nat.le_of_ble_eq_true rfl⟩) rfl hl.1 rfl (Nat.le_of_ble_eq_true rfl) dL_law_536 ⟨by show cells + 0 ≤ 600000; omega, by show slots + 0 ≤ 7302250; omega⟩ (fun H locs hJ hS => ?_)
        replace hc1 : cells + 0 + n0 ≤ S109.2.1 := by omega
        replace hc2 : slots + 0 + m0 ≤ S109.2.2.1 := by omega
        generalize cells + 0 = cells at hc1 ⊢
        generalize slots + 0 = slots at hc2 ⊢
        refine lv_icmp_eq (tgt := 804) C.1 C.2.1 dL_law_539 (by decide) (fun hq110 => ?_) (fun hq110 => ?_)
        · replace hf := jm_ift hf hq110
          refine jw_iinc (v := x3 + 3) C 3 dL_law_804 hl rfl (by rfl) (by decide) rfl (fun ls hl => ?_)
          refine lv_goto (tgt := 18) C.1 C.2.1 dL_law_807 (by decide) ?_
          exact ih x1 x2 (x3 + 3) hf hJ hS (hl.sub [1, 2, 3, 0] rfl) hc1 hc2
        · replace hf := jm_iff hf hq110
          refine lv_iconst (v := 0) C.1 C.2.1 dL_law_542 (by decide) ?_
          obtain ⟨u111, z111, hf⟩ := jm_rd_ok hf
          obtain ⟨hv, rfl⟩ := jm_ret_ok hf
          first
            | exact absurd hv (by decide)
            | exact va_forget (fun q hq => hlo ▸ hS.2.2 q hq) (W.widen (k := 600000) (n := 7302250) (by omega) (by omega) (lw_ret C.1 C.2.1 C.2.2.2.2.2.1 C.2.2.2.2.2.2.1 dL_law_543))
      replace hf := jm_iff hf hs9_17
      by_cases hs9_18 : ((xs (x3 : Int32).toNatClampNeg) &&& 31) = 18
      · replace hf := jm_ift hf hs9_18
        refine lv_tableIn (off := 512) (tgt := 544) C.1 C.2.1 dL_law_32 (by rw [hs9_18]; decide) (by rw [hs9_18]; decide) (by rw [hs9_18]; rfl) (by decide) ?_
        refine jw_aload_n C dL_law_544 rfl (hl.at 1 rfl) ?_
        refine lv_aload_n C.1 C.2.1 dL_law_545 rfl (hl.at 0 rfl) ?_
        refine lv_iload_n C.1 C.2.1 dL_law_546 rfl (hl.at 3 rfl) ?_
        refine lv_iconst (v := 1) C.1 C.2.1 dL_law_547 (by decide) ?_
        refine lv_iadd C.1 C.2.1 dL_law_548 ?_
        obtain ⟨u112, h112, hf⟩ := jm_rd_ok hf
        refine va_sld C.1 C.2.1 hX hbl hbA hS (jm_inL_ok h112) dL_law_549 ?_
        obtain ⟨a113, o113, hf⟩ := jm_rd_ok hf
        obtain ⟨v113, S113, h113, hf⟩ := jm_bd_ok hf
        have e113 := moX7_closeSession a113 (xs ((x3 + 1) : Int32).toNatClampNeg) _ _ _ h113
        have g113 := jm_mo hf (jm_Mo_rd (fun _ => jm_Mo_rd (fun _ => jm_Mo_bd (moX8_closeSession _ _) (fun _ => jm_Mo_if (moL_law_18 L xs _ _ _ _) (jm_Mo_rd (fun _ => jm_Mo_ret _))))))
        refine jw_cV (q := (RX7, TX7, 12)) C hJ hS o113 rfl (cX7_closeSession_C l G a113 (xs ((x3 + 1) : Int32).toNatClampNeg) h113 (S113.2.1 - S.2.1) (S113.2.2.1 - S.2.2.1) (by omega) (by omega)) (cwV 1 C.2.2.2.2.1 gL_law_X7_closeSession rfl rfl rfl (by decide +kernel) ⟨Nat.le_of_ble_eq_true rfl, Nat.le_of_ble_eq_true rfl⟩) rfl hl.1 rfl (Nat.le_of_ble_eq_true rfl) dL_law_550 ⟨by show cells + _ ≤ 600000; omega, by show slots + _ ≤ 7302250; omega⟩ (fun H locs hJ hS => ?_)
        replace hc1 : cells + (S113.2.1 - S.2.1) + n0 ≤ S113.2.1 := by omega
        replace hc2 : slots + (S113.2.2.1 - S.2.2.1) + m0 ≤ S113.2.2.1 := by omega
        generalize cells + (S113.2.1 - S.2.1) = cells at hc1 ⊢
        generalize slots + (S113.2.2.1 - S.2.2.1) = slots at hc2 ⊢
        refine jw_aload_n C dL_law_553 rfl (hl.at 2 rfl) ?_
        refine lv_aload_n C.1 C.2.1 dL_law_554 rfl (hl.at 0 rfl) ?_
        refine lv_iload_n C.1 C.2.1 dL_law_555 rfl (hl.at 3 rfl) ?_
        refine lv_iconst (v := 1) C.1 C.2.1 dL_law_556 (by decide) ?_
        refine lv_iadd C.1 C.2.1 dL_law_557 ?_
        obtain ⟨u114, h114, hf⟩ := jm_rd_ok hf
        refine va_sld C.1 C.2.1 hX hbl hbA hS (jm_inL_ok h114) dL_law_558 ?_
        obtain ⟨a115, o115, hf⟩ := jm_rd_ok hf
        obtain ⟨v115, S115, h115, hf⟩ := jm_bd_ok hf
        have e115 := moX8_closeSession a115 (xs ((x3 + 1) : Int32).toNatClampNeg) _ _ _ h115
        have g115 := jm_mo hf (jm_Mo_if (moL_law_18 L xs _ _ _ _) (jm_Mo_rd (fun _ => jm_Mo_ret _)))
        refine jw_cV (q := (RX8, TX8, 29)) C hJ hS o115 rfl (cX8_closeSession_C l G a115 (xs ((x3 + 1) : Int32).toNatClampNeg) h115) (cwV 1 C.2.2.2.2.1 gL_law_X8_closeSession rfl rfl rfl (by decide +kernel) ⟨Nat.le_of_ble_eq_true rfl, Nat.le_of_ble_eq_true rfl⟩) rfl hl.1 rfl (Nat.le_of_ble_eq_true rfl) dL_law_559 ⟨by show cells + 0 ≤ 600000; omega, by show slots + 0 ≤ 7302250; omega⟩ (fun H locs hJ hS => ?_)
        replace hc1 : cells + 0 + n0 ≤ S115.2.1 := by omega
        replace hc2 : slots + 0 + m0 ≤ S115.2.2.1 := by omega
        generalize cells + 0 = cells at hc1 ⊢
        generalize slots + 0 = slots at hc2 ⊢
        refine lv_icmp_eq (tgt := 804) C.1 C.2.1 dL_law_562 (by decide) (fun hq116 => ?_) (fun hq116 => ?_)
        · replace hf := jm_ift hf hq116
          refine jw_iinc (v := x3 + 3) C 3 dL_law_804 hl rfl (by rfl) (by decide) rfl (fun ls hl => ?_)
          refine lv_goto (tgt := 18) C.1 C.2.1 dL_law_807 (by decide) ?_
          exact ih x1 x2 (x3 + 3) hf hJ hS (hl.sub [1, 2, 3, 0] rfl) hc1 hc2
        · replace hf := jm_iff hf hq116
          refine lv_iconst (v := 0) C.1 C.2.1 dL_law_565 (by decide) ?_
          obtain ⟨u117, z117, hf⟩ := jm_rd_ok hf
          obtain ⟨hv, rfl⟩ := jm_ret_ok hf
          first
            | exact absurd hv (by decide)
            | exact va_forget (fun q hq => hlo ▸ hS.2.2 q hq) (W.widen (k := 600000) (n := 7302250) (by omega) (by omega) (lw_ret C.1 C.2.1 C.2.2.2.2.2.1 C.2.2.2.2.2.2.1 dL_law_566))
      replace hf := jm_iff hf hs9_18
      by_cases hs9_19 : ((xs (x3 : Int32).toNatClampNeg) &&& 31) = 19
      · replace hf := jm_ift hf hs9_19
        refine lv_tableIn (off := 535) (tgt := 567) C.1 C.2.1 dL_law_32 (by rw [hs9_19]; decide) (by rw [hs9_19]; decide) (by rw [hs9_19]; rfl) (by decide) ?_
        refine jw_aload_n C dL_law_567 rfl (hl.at 1 rfl) ?_
        refine lv_aload_n C.1 C.2.1 dL_law_568 rfl (hl.at 0 rfl) ?_
        refine lv_iload_n C.1 C.2.1 dL_law_569 rfl (hl.at 3 rfl) ?_
        refine lv_iconst (v := 1) C.1 C.2.1 dL_law_570 (by decide) ?_
        refine lv_iadd C.1 C.2.1 dL_law_571 ?_
        obtain ⟨u118, h118, hf⟩ := jm_rd_ok hf
        refine va_sld C.1 C.2.1 hX hbl hbA hS (jm_inL_ok h118) dL_law_572 ?_
        refine lv_aload_n C.1 C.2.1 dL_law_573 rfl (hl.at 0 rfl) ?_
        refine lv_iload_n C.1 C.2.1 dL_law_574 rfl (hl.at 3 rfl) ?_
        refine lv_iconst (v := 2) C.1 C.2.1 dL_law_575 (by decide) ?_
        refine lv_iadd C.1 C.2.1 dL_law_576 ?_
        obtain ⟨u119, h119, hf⟩ := jm_rd_ok hf
        refine va_sld C.1 C.2.1 hX hbl hbA hS (jm_inL_ok h119) dL_law_577 ?_
        obtain ⟨a120, o120, hf⟩ := jm_rd_ok hf
        obtain ⟨v120, S120, h120, hf⟩ := jm_bd_ok hf
        have e120 := moX7_watch a120 (xs ((x3 + 1) : Int32).toNatClampNeg) (xs ((x3 + 2) : Int32).toNatClampNeg) _ _ _ h120
        have g120 := jm_mo hf (jm_Mo_rd (fun _ => jm_Mo_rd (fun _ => jm_Mo_rd (fun _ => jm_Mo_bd (moX8_watch _ _ _) (fun _ => jm_Mo_if (moL_law_18 L xs _ _ _ _) (jm_Mo_rd (fun _ => jm_Mo_ret _)))))))
        refine jw_cV (q := (RX7, TX7, 12)) C hJ hS o120 rfl (cX7_watch_C l G a120 (xs ((x3 + 1) : Int32).toNatClampNeg) (xs ((x3 + 2) : Int32).toNatClampNeg) h120 (S120.2.1 - S.2.1) (S120.2.2.1 - S.2.2.1) (by omega) (by omega)) (cwV 2 C.2.2.2.2.1 gL_law_X7_watch rfl rfl rfl (by decide +kernel) ⟨Nat.le_of_ble_eq_true rfl, Nat.le_of_ble_eq_true rfl⟩) rfl hl.1 rfl (Nat.le_of_ble_eq_true rfl) dL_law_578 ⟨by show cells + _ ≤ 600000; omega, by show slots + _ ≤ 7302250; omega⟩ (fun H locs hJ hS => ?_)
        replace hc1 : cells + (S120.2.1 - S.2.1) + n0 ≤ S120.2.1 := by omega
        replace hc2 : slots + (S120.2.2.1 - S.2.2.1) + m0 ≤ S120.2.2.1 := by omega
        generalize cells + (S120.2.1 - S.2.1) = cells at hc1 ⊢
        generalize slots + (S120.2.2.1 - S.2.2.1) = slots at hc2 ⊢
        refine jw_aload_n C dL_law_581 rfl (hl.at 2 rfl) ?_
        refine lv_aload_n C.1 C.2.1 dL_law_582 rfl (hl.at 0 rfl) ?_
        refine lv_iload_n C.1 C.2.1 dL_law_583 rfl (hl.at 3 rfl) ?_
        refine lv_iconst (v := 1) C.1 C.2.1 dL_law_584 (by decide) ?_
        refine lv_iadd C.1 C.2.1 dL_law_585 ?_
        obtain ⟨u121, h121, hf⟩ := jm_rd_ok hf
        refine va_sld C.1 C.2.1 hX hbl hbA hS (jm_inL_ok h121) dL_law_586 ?_
        refine lv_aload_n C.1 C.2.1 dL_law_587 rfl (hl.at 0 rfl) ?_
        refine lv_iload_n C.1 C.2.1 dL_law_588 rfl (hl.at 3 rfl) ?_
        refine lv_iconst (v := 2) C.1 C.2.1 dL_law_589 (by decide) ?_
        refine lv_iadd C.1 C.2.1 dL_law_590 ?_
        obtain ⟨u122, h122, hf⟩ := jm_rd_ok hf
        refine va_sld C.1 C.2.1 hX hbl hbA hS (jm_inL_ok h122) dL_law_591 ?_
        obtain ⟨a123, o123, hf⟩ := jm_rd_ok hf
        obtain ⟨v123, S123, h123, hf⟩ := jm_bd_ok hf
        have e123 := moX8_watch a123 (xs ((x3 + 1) : Int32).toNatClampNeg) (xs ((x3 + 2) : Int32).toNatClampNeg) _ _ _ h123
        have g123 := jm_mo hf (jm_Mo_if (moL_law_18 L xs _ _ _ _) (jm_Mo_rd (fun _ => jm_Mo_ret _)))
        refine jw_cV (q := (RX8, TX8, 29)) C hJ hS o123 rfl (cX8_watch_C l G a123 (xs ((x3 + 1) : Int32).toNatClampNeg) (xs ((x3 + 2) : Int32).toNatClampNeg) h123) (cwV 2 C.2.2.2.2.1 gL_law_X8_watch rfl rfl rfl (by decide +kernel) ⟨Nat.le_of_ble_eq_true rfl, Nat.le_of_ble_eq_true rfl⟩) rfl hl.1 rfl (Nat.le_of_ble_eq_true rfl) dL_law_592 ⟨by show cells + 0 ≤ 600000; omega, by show slots + 0 ≤ 7302250; omega⟩ (fun H locs hJ hS => ?_)
        replace hc1 : cells + 0 + n0 ≤ S123.2.1 := by omega
        replace hc2 : slots + 0 + m0 ≤ S123.2.2.1 := by omega
        generalize cells + 0 = cells at hc1 ⊢
        generalize slots + 0 = slots at hc2 ⊢
        refine lv_icmp_eq (tgt := 804) C.1 C.2.1 dL_law_595 (by decide) (fun hq124 => ?_) (fun hq124 => ?_)
        · replace hf := jm_ift hf hq124
          refine jw_iinc (v := x3 + 3) C 3 dL_law_804 hl rfl (by rfl) (by decide) rfl (fun ls hl => ?_)
          refine lv_goto (tgt := 18) C.1 C.2.1 dL_law_807 (by decide) ?_
          exact ih x1 x2 (x3 + 3) hf hJ hS (hl.sub [1, 2, 3, 0] rfl) hc1 hc2
        · replace hf := jm_iff hf hq124
          refine lv_iconst (v := 0) C.1 C.2.1 dL_law_598 (by decide) ?_
          obtain ⟨u125, z125, hf⟩ := jm_rd_ok hf
          obtain ⟨hv, rfl⟩ := jm_ret_ok hf
          first
            | exact absurd hv (by decide)
            | exact va_forget (fun q hq => hlo ▸ hS.2.2 q hq) (W.widen (k := 600000) (n := 7302250) (by omega) (by omega) (lw_ret C.1 C.2.1 C.2.2.2.2.2.1 C.2.2.2.2.2.2.1 dL_law_599))
      replace hf := jm_iff hf hs9_19
      by_cases hs9_20 : ((xs (x3 : Int32).toNatClampNeg) &&& 31) = 20
      · replace hf := jm_ift hf hs9_20
        refine lv_tableIn (off := 568) (tgt := 600) C.1 C.2.1 dL_law_32 (by rw [hs9_20]; decide) (by rw [hs9_20]; decide) (by rw [hs9_20]; rfl) (by decide) ?_
        refine jw_aload_n C dL_law_600 rfl (hl.at 1 rfl) ?_
        refine lv_aload_n C.1 C.2.1 dL_law_601 rfl (hl.at 0 rfl) ?_
        refine lv_iload_n C.1 C.2.1 dL_law_602 rfl (hl.at 3 rfl) ?_
        refine lv_iconst (v := 1) C.1 C.2.1 dL_law_603 (by decide) ?_
        refine lv_iadd C.1 C.2.1 dL_law_604 ?_
        obtain ⟨u126, h126, hf⟩ := jm_rd_ok hf
        refine va_sld C.1 C.2.1 hX hbl hbA hS (jm_inL_ok h126) dL_law_605 ?_
        obtain ⟨a127, o127, hf⟩ := jm_rd_ok hf
        obtain ⟨v127, S127, h127, hf⟩ := jm_bd_ok hf
        have e127 := moX7_eventCount a127 (xs ((x3 + 1) : Int32).toNatClampNeg) _ _ _ h127
        have g127 := jm_mo hf (jm_Mo_rd (fun _ => jm_Mo_rd (fun _ => jm_Mo_bd (moX8_eventCount _ _) (fun _ => jm_Mo_if (moL_law_18 L xs _ _ _ _) (jm_Mo_rd (fun _ => jm_Mo_ret _))))))
        refine jw_cV (q := (RX7, TX7, 12)) C hJ hS o127 rfl (cX7_eventCount_C l G a127 (xs ((x3 + 1) : Int32).toNatClampNeg) h127) (cwV 1 C.2.2.2.2.1 gL_law_X7_eventCount rfl rfl rfl (by decide +kernel) ⟨Nat.le_of_ble_eq_true rfl, Nat.le_of_ble_eq_true rfl⟩) rfl hl.1 rfl (Nat.le_of_ble_eq_true rfl) dL_law_606 ⟨by show cells + 0 ≤ 600000; omega, by show slots + 0 ≤ 7302250; omega⟩ (fun H locs hJ hS => ?_)
        replace hc1 : cells + 0 + n0 ≤ S127.2.1 := by omega
        replace hc2 : slots + 0 + m0 ≤ S127.2.2.1 := by omega
        generalize cells + 0 = cells at hc1 ⊢
        generalize slots + 0 = slots at hc2 ⊢
        refine jw_aload_n C dL_law_609 rfl (hl.at 2 rfl) ?_
        refine lv_aload_n C.1 C.2.1 dL_law_610 rfl (hl.at 0 rfl) ?_
        refine lv_iload_n C.1 C.2.1 dL_law_611 rfl (hl.at 3 rfl) ?_
        refine lv_iconst (v := 1) C.1 C.2.1 dL_law_612 (by decide) ?_
        refine lv_iadd C.1 C.2.1 dL_law_613 ?_
        obtain ⟨u128, h128, hf⟩ := jm_rd_ok hf
        refine va_sld C.1 C.2.1 hX hbl hbA hS (jm_inL_ok h128) dL_law_614 ?_
        obtain ⟨a129, o129, hf⟩ := jm_rd_ok hf
        obtain ⟨v129, S129, h129, hf⟩ := jm_bd_ok hf
        have e129 := moX8_eventCount a129 (xs ((x3 + 1) : Int32).toNatClampNeg) _ _ _ h129
        have g129 := jm_mo hf (jm_Mo_if (moL_law_18 L xs _ _ _ _) (jm_Mo_rd (fun _ => jm_Mo_ret _)))
        refine jw_cV (q := (RX8, TX8, 29)) C hJ hS o129 rfl (cX8_eventCount_C l G a129 (xs ((x3 + 1) : Int32).toNatClampNeg) h129) (cwV 1 C.2.2.2.2.1 gL_law_X8_eventCount rfl rfl rfl (by decide +kernel) ⟨Nat.le_of_ble_eq_true rfl, Nat.le_of_ble_eq_true rfl⟩) rfl hl.1 rfl (Nat.le_of_ble_eq_true rfl) dL_law_615 ⟨by show cells + 0 ≤ 600000; omega, by show slots + 0 ≤ 7302250; omega⟩ (fun H locs hJ hS => ?_)
        replace hc1 : cells + 0 + n0 ≤ S129.2.1 := by omega
        replace hc2 : slots + 0 + m0 ≤ S129.2.2.1 := by omega
        generalize cells + 0 = cells at hc1 ⊢
        generalize slots + 0 = slots at hc2 ⊢
        refine lv_icmp_eq (tgt := 804) C.1 C.2.1 dL_law_618 (by decide) (fun hq130 => ?_) (fun hq130 => ?_)
        · replace hf := jm_ift hf hq130
          refine jw_iinc (v := x3 + 3) C 3 dL_law_804 hl rfl (by rfl) (by decide) rfl (fun ls hl => ?_)
          refine lv_goto (tgt := 18) C.1 C.2.1 dL_law_807 (by decide) ?_
          exact ih x1 x2 (x3 + 3) hf hJ hS (hl.sub [1, 2, 3, 0] rfl) hc1 hc2
        · replace hf := jm_iff hf hq130
          refine lv_iconst (v := 0) C.1 C.2.1 dL_law_621 (by decide) ?_
          obtain ⟨u131, z131, hf⟩ := jm_rd_ok hf
          obtain ⟨hv, rfl⟩ := jm_ret_ok hf
          first
            | exact absurd hv (by decide)
            | exact va_forget (fun q hq => hlo ▸ hS.2.2 q hq) (W.widen (k := 600000) (n := 7302250) (by omega) (by omega) (lw_ret C.1 C.2.1 C.2.2.2.2.2.1 C.2.2.2.2.2.2.1 dL_law_622))
      replace hf := jm_iff hf hs9_20
      by_cases hs9_21 : ((xs (x3 : Int32).toNatClampNeg) &&& 31) = 21
      · replace hf := jm_ift hf hs9_21
        refine lv_tableIn (off := 591) (tgt := 623) C.1 C.2.1 dL_law_32 (by rw [hs9_21]; decide) (by rw [hs9_21]; decide) (by rw [hs9_21]; rfl) (by decide) ?_
        refine jw_aload_n C dL_law_623 rfl (hl.at 1 rfl) ?_
        refine lv_aload_n C.1 C.2.1 dL_law_624 rfl (hl.at 0 rfl) ?_
        refine lv_iload_n C.1 C.2.1 dL_law_625 rfl (hl.at 3 rfl) ?_
        refine lv_iconst (v := 1) C.1 C.2.1 dL_law_626 (by decide) ?_
        refine lv_iadd C.1 C.2.1 dL_law_627 ?_
        obtain ⟨u132, h132, hf⟩ := jm_rd_ok hf
        refine va_sld C.1 C.2.1 hX hbl hbA hS (jm_inL_ok h132) dL_law_628 ?_
        refine lv_aload_n C.1 C.2.1 dL_law_629 rfl (hl.at 0 rfl) ?_
        refine lv_iload_n C.1 C.2.1 dL_law_630 rfl (hl.at 3 rfl) ?_
        refine lv_iconst (v := 2) C.1 C.2.1 dL_law_631 (by decide) ?_
        refine lv_iadd C.1 C.2.1 dL_law_632 ?_
        obtain ⟨u133, h133, hf⟩ := jm_rd_ok hf
        refine va_sld C.1 C.2.1 hX hbl hbA hS (jm_inL_ok h133) dL_law_633 ?_
        obtain ⟨a134, o134, hf⟩ := jm_rd_ok hf
        obtain ⟨v134, S134, h134, hf⟩ := jm_bd_ok hf
        have e134 := moX7_eventAt a134 (xs ((x3 + 1) : Int32).toNatClampNeg) (xs ((x3 + 2) : Int32).toNatClampNeg) _ _ _ h134
        have g134 := jm_mo hf (jm_Mo_rd (fun _ => jm_Mo_rd (fun _ => jm_Mo_rd (fun _ => jm_Mo_bd (moX8_eventAt _ _ _) (fun _ => jm_Mo_if (moL_law_18 L xs _ _ _ _) (jm_Mo_rd (fun _ => jm_Mo_ret _)))))))
        refine jw_cV (q := (RX7, TX7, 12)) C hJ hS o134 rfl (cX7_eventAt_C l G a134 (xs ((x3 + 1) : Int32).toNatClampNeg) (xs ((x3 + 2) : Int32).toNatClampNeg) h134) (cwV 2 C.2.2.2.2.1 gL_law_X7_eventAt rfl rfl rfl (by decide +kernel) ⟨Nat.le_of_ble_eq_true rfl, Nat.le_of_ble_eq_true rfl⟩) rfl hl.1 rfl (Nat.le_of_ble_eq_true rfl) dL_law_634 ⟨by show cells + 0 ≤ 600000; omega, by show slots + 0 ≤ 7302250; omega⟩ (fun H locs hJ hS => ?_)
        replace hc1 : cells + 0 + n0 ≤ S134.2.1 := by omega
        replace hc2 : slots + 0 + m0 ≤ S134.2.2.1 := by omega
        generalize cells + 0 = cells at hc1 ⊢
        generalize slots + 0 = slots at hc2 ⊢
        refine jw_aload_n C dL_law_637 rfl (hl.at 2 rfl) ?_
        refine lv_aload_n C.1 C.2.1 dL_law_638 rfl (hl.at 0 rfl) ?_
        refine lv_iload_n C.1 C.2.1 dL_law_639 rfl (hl.at 3 rfl) ?_
        refine lv_iconst (v := 1) C.1 C.2.1 dL_law_640 (by decide) ?_
        refine lv_iadd C.1 C.2.1 dL_law_641 ?_
        obtain ⟨u135, h135, hf⟩ := jm_rd_ok hf
        refine va_sld C.1 C.2.1 hX hbl hbA hS (jm_inL_ok h135) dL_law_642 ?_
        refine lv_aload_n C.1 C.2.1 dL_law_643 rfl (hl.at 0 rfl) ?_
        refine lv_iload_n C.1 C.2.1 dL_law_644 rfl (hl.at 3 rfl) ?_
        refine lv_iconst (v := 2) C.1 C.2.1 dL_law_645 (by decide) ?_
        refine lv_iadd C.1 C.2.1 dL_law_646 ?_
        obtain ⟨u136, h136, hf⟩ := jm_rd_ok hf
        refine va_sld C.1 C.2.1 hX hbl hbA hS (jm_inL_ok h136) dL_law_647 ?_
        obtain ⟨a137, o137, hf⟩ := jm_rd_ok hf
        obtain ⟨v137, S137, h137, hf⟩ := jm_bd_ok hf
        have e137 := moX8_eventAt a137 (xs ((x3 + 1) : Int32).toNatClampNeg) (xs ((x3 + 2) : Int32).toNatClampNeg) _ _ _ h137
        have g137 := jm_mo hf (jm_Mo_if (moL_law_18 L xs _ _ _ _) (jm_Mo_rd (fun _ => jm_Mo_ret _)))
        refine jw_cV (q := (RX8, TX8, 29)) C hJ hS o137 rfl (cX8_eventAt_C l G a137 (xs ((x3 + 1) : Int32).toNatClampNeg) (xs ((x3 + 2) : Int32).toNatClampNeg) h137) (cwV 2 C.2.2.2.2.1 gL_law_X8_eventAt rfl rfl rfl (by decide +kernel) ⟨Nat.le_of_ble_eq_true rfl, Nat.le_of_ble_eq_true rfl⟩) rfl hl.1 rfl (Nat.le_of_ble_eq_true rfl) dL_law_648 ⟨by show cells + 0 ≤ 600000; omega, by show slots + 0 ≤ 7302250; omega⟩ (fun H locs hJ hS => ?_)
        replace hc1 : cells + 0 + n0 ≤ S137.2.1 := by omega
        replace hc2 : slots + 0 + m0 ≤ S137.2.2.1 := by omega
        generalize cells + 0 = cells at hc1 ⊢
        generalize slots + 0 = slots at hc2 ⊢
        refine lv_icmp_eq (tgt := 804) C.1 C.2.1 dL_law_651 (by decide) (fun hq138 => ?_) (fun hq138 => ?_)
        · replace hf := jm_ift hf hq138
          refine jw_iinc (v := x3 + 3) C 3 dL_law_804 hl rfl (by rfl) (by decide) rfl (fun ls hl => ?_)
          refine lv_goto (tgt := 18) C.1 C.2.1 dL_law_807 (by decide) ?_
          exact ih x1 x2 (x3 + 3) hf hJ hS (hl.sub [1, 2, 3, 0] rfl) hc1 hc2
        · replace hf := jm_iff hf hq138
          refine lv_iconst (v := 0) C.1 C.2.1 dL_law_654 (by decide) ?_
          obtain ⟨u139, z139, hf⟩ := jm_rd_ok hf
          obtain ⟨hv, rfl⟩ := jm_ret_ok hf
          first
            | exact absurd hv (by decide)
            | exact va_forget (fun q hq => hlo ▸ hS.2.2 q hq) (W.widen (k := 600000) (n := 7302250) (by omega) (by omega) (lw_ret C.1 C.2.1 C.2.2.2.2.2.1 C.2.2.2.2.2.2.1 dL_law_655))
      replace hf := jm_iff hf hs9_21
      by_cases hs9_22 : ((xs (x3 : Int32).toNatClampNeg) &&& 31) = 22
      · replace hf := jm_ift hf hs9_22
        refine lv_tableIn (off := 624) (tgt := 656) C.1 C.2.1 dL_law_32 (by rw [hs9_22]; decide) (by rw [hs9_22]; decide) (by rw [hs9_22]; rfl) (by decide) ?_
        refine jw_aload_n C dL_law_656 rfl (hl.at 1 rfl) ?_
        refine lv_aload_n C.1 C.2.1 dL_law_657 rfl (hl.at 0 rfl) ?_
        refine lv_iload_n C.1 C.2.1 dL_law_658 rfl (hl.at 3 rfl) ?_
        refine lv_iconst (v := 1) C.1 C.2.1 dL_law_659 (by decide) ?_
        refine lv_iadd C.1 C.2.1 dL_law_660 ?_
        obtain ⟨u140, h140, hf⟩ := jm_rd_ok hf
        refine va_sld C.1 C.2.1 hX hbl hbA hS (jm_inL_ok h140) dL_law_661 ?_
        obtain ⟨a141, o141, hf⟩ := jm_rd_ok hf
        obtain ⟨v141, S141, h141, hf⟩ := jm_bd_ok hf
        have e141 := moX7_dataAt a141 (xs ((x3 + 1) : Int32).toNatClampNeg) _ _ _ h141
        have g141 := jm_mo hf (jm_Mo_rd (fun _ => jm_Mo_rd (fun _ => jm_Mo_bd (moX8_dataAt _ _) (fun _ => jm_Mo_if (moL_law_18 L xs _ _ _ _) (jm_Mo_rd (fun _ => jm_Mo_ret _))))))
        refine jw_cV (q := (RX7, TX7, 12)) C hJ hS o141 rfl (cX7_dataAt_C l G a141 (xs ((x3 + 1) : Int32).toNatClampNeg) h141) (cwV 1 C.2.2.2.2.1 gL_law_X7_dataAt rfl rfl rfl (by decide +kernel) ⟨Nat.le_of_ble_eq_true rfl, Nat.le_of_ble_eq_true rfl⟩) rfl hl.1 rfl (Nat.le_of_ble_eq_true rfl) dL_law_662 ⟨by show cells + 0 ≤ 600000; omega, by show slots + 0 ≤ 7302250; omega⟩ (fun H locs hJ hS => ?_)
        replace hc1 : cells + 0 + n0 ≤ S141.2.1 := by omega
        replace hc2 : slots + 0 + m0 ≤ S141.2.2.1 := by omega
        generalize cells + 0 = cells at hc1 ⊢
        generalize slots + 0 = slots at hc2 ⊢
        refine jw_aload_n C dL_law_665 rfl (hl.at 2 rfl) ?_
        refine lv_aload_n C.1 C.2.1 dL_law_666 rfl (hl.at 0 rfl) ?_
        refine lv_iload_n C.1 C.2.1 dL_law_667 rfl (hl.at 3 rfl) ?_
        refine lv_iconst (v := 1) C.1 C.2.1 dL_law_668 (by decide) ?_
        refine lv_iadd C.1 C.2.1 dL_law_669 ?_
        obtain ⟨u142, h142, hf⟩ := jm_rd_ok hf
        refine va_sld C.1 C.2.1 hX hbl hbA hS (jm_inL_ok h142) dL_law_670 ?_
        obtain ⟨a143, o143, hf⟩ := jm_rd_ok hf
        obtain ⟨v143, S143, h143, hf⟩ := jm_bd_ok hf
        have e143 := moX8_dataAt a143 (xs ((x3 + 1) : Int32).toNatClampNeg) _ _ _ h143
        have g143 := jm_mo hf (jm_Mo_if (moL_law_18 L xs _ _ _ _) (jm_Mo_rd (fun _ => jm_Mo_ret _)))
        refine jw_cV (q := (RX8, TX8, 29)) C hJ hS o143 rfl (cX8_dataAt_C l G a143 (xs ((x3 + 1) : Int32).toNatClampNeg) h143) (cwV 1 C.2.2.2.2.1 gL_law_X8_dataAt rfl rfl rfl (by decide +kernel) ⟨Nat.le_of_ble_eq_true rfl, Nat.le_of_ble_eq_true rfl⟩) rfl hl.1 rfl (Nat.le_of_ble_eq_true rfl) dL_law_671 ⟨by show cells + 0 ≤ 600000; omega, by show slots + 0 ≤ 7302250; omega⟩ (fun H locs hJ hS => ?_)
        replace hc1 : cells + 0 + n0 ≤ S143.2.1 := by omega
        replace hc2 : slots + 0 + m0 ≤ S143.2.2.1 := by omega
        generalize cells + 0 = cells at hc1 ⊢
        generalize slots + 0 = slots at hc2 ⊢
        refine lv_icmp_eq (tgt := 804) C.1 C.2.1 dL_law_674 (by decide) (fun hq144 => ?_) (fun hq144 => ?_)
        · replace hf := jm_ift hf hq144
          refine jw_iinc (v := x3 + 3) C 3 dL_law_804 hl rfl (by rfl) (by decide) rfl (fun ls hl => ?_)
          refine lv_goto (tgt := 18) C.1 C.2.1 dL_law_807 (by decide) ?_
          exact ih x1 x2 (x3 + 3) hf hJ hS (hl.sub [1, 2, 3, 0] rfl) hc1 hc2
        · replace hf := jm_iff hf hq144
          refine lv_iconst (v := 0) C.1 C.2.1 dL_law_677 (by decide) ?_
          obtain ⟨u145, z145, hf⟩ := jm_rd_ok hf
          obtain ⟨hv, rfl⟩ := jm_ret_ok hf
          first
            | exact absurd hv (by decide)
            | exact va_forget (fun q hq => hlo ▸ hS.2.2 q hq) (W.widen (k := 600000) (n := 7302250) (by omega) (by omega) (lw_ret C.1 C.2.1 C.2.2.2.2.2.1 C.2.2.2.2.2.2.1 dL_law_678))
      replace hf := jm_iff hf hs9_22
      by_cases hs9_23 : ((xs (x3 : Int32).toNatClampNeg) &&& 31) = 23
      · replace hf := jm_ift hf hs9_23
        refine lv_tableIn (off := 647) (tgt := 679) C.1 C.2.1 dL_law_32 (by rw [hs9_23]; decide) (by rw [hs9_23]; decide) (by rw [hs9_23]; rfl) (by decide) ?_
        refine jw_aload_n C dL_law_679 rfl (hl.at 1 rfl) ?_
        refine lv_aload_n C.1 C.2.1 dL_law_680 rfl (hl.at 0 rfl) ?_
        refine lv_iload_n C.1 C.2.1 dL_law_681 rfl (hl.at 3 rfl) ?_
        refine lv_iconst (v := 1) C.1 C.2.1 dL_law_682 (by decide) ?_
        refine lv_iadd C.1 C.2.1 dL_law_683 ?_
        obtain ⟨u146, h146, hf⟩ := jm_rd_ok hf
        refine va_sld C.1 C.2.1 hX hbl hbA hS (jm_inL_ok h146) dL_law_684 ?_
        obtain ⟨a147, o147, hf⟩ := jm_rd_ok hf
        obtain ⟨v147, S147, h147, hf⟩ := jm_bd_ok hf
        have e147 := moX7_versionAt a147 (xs ((x3 + 1) : Int32).toNatClampNeg) _ _ _ h147
        have g147 := jm_mo hf (jm_Mo_rd (fun _ => jm_Mo_rd (fun _ => jm_Mo_bd (moX8_versionAt _ _) (fun _ => jm_Mo_if (moL_law_18 L xs _ _ _ _) (jm_Mo_rd (fun _ => jm_Mo_ret _))))))
        refine jw_cV (q := (RX7, TX7, 12)) C hJ hS o147 rfl (cX7_versionAt_C l G a147 (xs ((x3 + 1) : Int32).toNatClampNeg) h147) (cwV 1 C.2.2.2.2.1 gL_law_X7_versionAt rfl rfl rfl (by decide +kernel) ⟨Nat.le_of_ble_eq_true rfl, Nat.le_of_ble_eq_true rfl⟩) rfl hl.1 rfl (Nat.le_of_ble_eq_true rfl) dL_law_685 ⟨by show cells + 0 ≤ 600000; omega, by show slots + 0 ≤ 7302250; omega⟩ (fun H locs hJ hS => ?_)
        replace hc1 : cells + 0 + n0 ≤ S147.2.1 := by omega
        replace hc2 : slots + 0 + m0 ≤ S147.2.2.1 := by omega
        generalize cells + 0 = cells at hc1 ⊢
        generalize slots + 0 = slots at hc2 ⊢
        refine jw_aload_n C dL_law_688 rfl (hl.at 2 rfl) ?_
        refine lv_aload_n C.1 C.2.1 dL_law_689 rfl (hl.at 0 rfl) ?_
        refine lv_iload_n C.1 C.2.1 dL_law_690 rfl (hl.at 3 rfl) ?_
        refine lv_iconst (v := 1) C.1 C.2.1 dL_law_691 (by decide) ?_
        refine lv_iadd C.1 C.2.1 dL_law_692 ?_
        obtain ⟨u148, h148, hf⟩ := jm_rd_ok hf
        refine va_sld C.1 C.2.1 hX hbl hbA hS (jm_inL_ok h148) dL_law_693 ?_
        obtain ⟨a149, o149, hf⟩ := jm_rd_ok hf
        obtain ⟨v149, S149, h149, hf⟩ := jm_bd_ok hf
        have e149 := moX8_versionAt a149 (xs ((x3 + 1) : Int32).toNatClampNeg) _ _ _ h149
        have g149 := jm_mo hf (jm_Mo_if (moL_law_18 L xs _ _ _ _) (jm_Mo_rd (fun _ => jm_Mo_ret _)))
        refine jw_cV (q := (RX8, TX8, 29)) C hJ hS o149 rfl (cX8_versionAt_C l G a149 (xs ((x3 + 1) : Int32).toNatClampNeg) h149) (cwV 1 C.2.2.2.2.1 gL_law_X8_versionAt rfl rfl rfl (by decide +kernel) ⟨Nat.le_of_ble_eq_true rfl, Nat.le_of_ble_eq_true rfl⟩) rfl hl.1 rfl (Nat.le_of_ble_eq_true rfl) dL_law_694 ⟨by show cells + 0 ≤ 600000; omega, by show slots + 0 ≤ 7302250; omega⟩ (fun H locs hJ hS => ?_)
        replace hc1 : cells + 0 + n0 ≤ S149.2.1 := by omega
        replace hc2 : slots + 0 + m0 ≤ S149.2.2.1 := by omega
        generalize cells + 0 = cells at hc1 ⊢
        generalize slots + 0 = slots at hc2 ⊢
        refine lv_icmp_eq (tgt := 804) C.1 C.2.1 dL_law_697 (by decide) (fun hq150 => ?_) (fun hq150 => ?_)
        · replace hf := jm_ift hf hq150
          refine jw_iinc (v := x3 + 3) C 3 dL_law_804 hl rfl (by rfl) (by decide) rfl (fun ls hl => ?_)
          refine lv_goto (tgt := 18) C.1 C.2.1 dL_law_807 (by decide) ?_
          exact ih x1 x2 (x3 + 3) hf hJ hS (hl.sub [1, 2, 3, 0] rfl) hc1 hc2
        · replace hf := jm_iff hf hq150
          refine lv_iconst (v := 0) C.1 C.2.1 dL_law_700 (by decide) ?_
          obtain ⟨u151, z151, hf⟩ := jm_rd_ok hf
          obtain ⟨hv, rfl⟩ := jm_ret_ok hf
          first
            | exact absurd hv (by decide)
            | exact va_forget (fun q hq => hlo ▸ hS.2.2 q hq) (W.widen (k := 600000) (n := 7302250) (by omega) (by omega) (lw_ret C.1 C.2.1 C.2.2.2.2.2.1 C.2.2.2.2.2.2.1 dL_law_701))
      replace hf := jm_iff hf hs9_23
      by_cases hs9_24 : ((xs (x3 : Int32).toNatClampNeg) &&& 31) = 24
      · replace hf := jm_ift hf hs9_24
        refine lv_tableIn (off := 670) (tgt := 702) C.1 C.2.1 dL_law_32 (by rw [hs9_24]; decide) (by rw [hs9_24]; decide) (by rw [hs9_24]; rfl) (by decide) ?_
        refine jw_aload_n C dL_law_702 rfl (hl.at 1 rfl) ?_
        refine lv_aload_n C.1 C.2.1 dL_law_703 rfl (hl.at 0 rfl) ?_
        refine lv_iload_n C.1 C.2.1 dL_law_704 rfl (hl.at 3 rfl) ?_
        refine lv_iconst (v := 1) C.1 C.2.1 dL_law_705 (by decide) ?_
        refine lv_iadd C.1 C.2.1 dL_law_706 ?_
        obtain ⟨u152, h152, hf⟩ := jm_rd_ok hf
        refine va_sld C.1 C.2.1 hX hbl hbA hS (jm_inL_ok h152) dL_law_707 ?_
        obtain ⟨a153, o153, hf⟩ := jm_rd_ok hf
        obtain ⟨v153, S153, h153, hf⟩ := jm_bd_ok hf
        have e153 := moX7_ownerAt a153 (xs ((x3 + 1) : Int32).toNatClampNeg) _ _ _ h153
        have g153 := jm_mo hf (jm_Mo_rd (fun _ => jm_Mo_rd (fun _ => jm_Mo_bd (moX8_ownerAt _ _) (fun _ => jm_Mo_if (moL_law_18 L xs _ _ _ _) (jm_Mo_rd (fun _ => jm_Mo_ret _))))))
        refine jw_cV (q := (RX7, TX7, 12)) C hJ hS o153 rfl (cX7_ownerAt_C l G a153 (xs ((x3 + 1) : Int32).toNatClampNeg) h153) (cwV 1 C.2.2.2.2.1 gL_law_X7_ownerAt rfl rfl rfl (by decide +kernel) ⟨Nat.le_of_ble_eq_true rfl, Nat.le_of_ble_eq_true rfl⟩) rfl hl.1 rfl (Nat.le_of_ble_eq_true rfl) dL_law_708 ⟨by show cells + 0 ≤ 600000; omega, by show slots + 0 ≤ 7302250; omega⟩ (fun H locs hJ hS => ?_)
        replace hc1 : cells + 0 + n0 ≤ S153.2.1 := by omega
        replace hc2 : slots + 0 + m0 ≤ S153.2.2.1 := by omega
        generalize cells + 0 = cells at hc1 ⊢
        generalize slots + 0 = slots at hc2 ⊢
        refine jw_aload_n C dL_law_711 rfl (hl.at 2 rfl) ?_
        refine lv_aload_n C.1 C.2.1 dL_law_712 rfl (hl.at 0 rfl) ?_
        refine lv_iload_n C.1 C.2.1 dL_law_713 rfl (hl.at 3 rfl) ?_
        refine lv_iconst (v := 1) C.1 C.2.1 dL_law_714 (by decide) ?_
        refine lv_iadd C.1 C.2.1 dL_law_715 ?_
        obtain ⟨u154, h154, hf⟩ := jm_rd_ok hf
        refine va_sld C.1 C.2.1 hX hbl hbA hS (jm_inL_ok h154) dL_law_716 ?_
        obtain ⟨a155, o155, hf⟩ := jm_rd_ok hf
        obtain ⟨v155, S155, h155, hf⟩ := jm_bd_ok hf
        have e155 := moX8_ownerAt a155 (xs ((x3 + 1) : Int32).toNatClampNeg) _ _ _ h155
        have g155 := jm_mo hf (jm_Mo_if (moL_law_18 L xs _ _ _ _) (jm_Mo_rd (fun _ => jm_Mo_ret _)))
        refine jw_cV (q := (RX8, TX8, 29)) C hJ hS o155 rfl (cX8_ownerAt_C l G a155 (xs ((x3 + 1) : Int32).toNatClampNeg) h155) (cwV 1 C.2.2.2.2.1 gL_law_X8_ownerAt rfl rfl rfl (by decide +kernel) ⟨Nat.le_of_ble_eq_true rfl, Nat.le_of_ble_eq_true rfl⟩) rfl hl.1 rfl (Nat.le_of_ble_eq_true rfl) dL_law_717 ⟨by show cells + 0 ≤ 600000; omega, by show slots + 0 ≤ 7302250; omega⟩ (fun H locs hJ hS => ?_)
        replace hc1 : cells + 0 + n0 ≤ S155.2.1 := by omega
        replace hc2 : slots + 0 + m0 ≤ S155.2.2.1 := by omega
        generalize cells + 0 = cells at hc1 ⊢
        generalize slots + 0 = slots at hc2 ⊢
        refine lv_icmp_eq (tgt := 804) C.1 C.2.1 dL_law_720 (by decide) (fun hq156 => ?_) (fun hq156 => ?_)
        · replace hf := jm_ift hf hq156
          refine jw_iinc (v := x3 + 3) C 3 dL_law_804 hl rfl (by rfl) (by decide) rfl (fun ls hl => ?_)
          refine lv_goto (tgt := 18) C.1 C.2.1 dL_law_807 (by decide) ?_
          exact ih x1 x2 (x3 + 3) hf hJ hS (hl.sub [1, 2, 3, 0] rfl) hc1 hc2
        · replace hf := jm_iff hf hq156
          refine lv_iconst (v := 0) C.1 C.2.1 dL_law_723 (by decide) ?_
          obtain ⟨u157, z157, hf⟩ := jm_rd_ok hf
          obtain ⟨hv, rfl⟩ := jm_ret_ok hf
          first
            | exact absurd hv (by decide)
            | exact va_forget (fun q hq => hlo ▸ hS.2.2 q hq) (W.widen (k := 600000) (n := 7302250) (by omega) (by omega) (lw_ret C.1 C.2.1 C.2.2.2.2.2.1 C.2.2.2.2.2.2.1 dL_law_724))
      replace hf := jm_iff hf hs9_24
      by_cases hs9_25 : ((xs (x3 : Int32).toNatClampNeg) &&& 31) = 25
      · replace hf := jm_ift hf hs9_25
        refine lv_tableIn (off := 693) (tgt := 725) C.1 C.2.1 dL_law_32 (by rw [hs9_25]; decide) (by rw [hs9_25]; decide) (by rw [hs9_25]; rfl) (by decide) ?_
        refine jw_aload_n C dL_law_725 rfl (hl.at 1 rfl) ?_
        refine lv_aload_n C.1 C.2.1 dL_law_726 rfl (hl.at 0 rfl) ?_
        refine lv_iload_n C.1 C.2.1 dL_law_727 rfl (hl.at 3 rfl) ?_
        refine lv_iconst (v := 1) C.1 C.2.1 dL_law_728 (by decide) ?_
        refine lv_iadd C.1 C.2.1 dL_law_729 ?_
        obtain ⟨u158, h158, hf⟩ := jm_rd_ok hf
        refine va_sld C.1 C.2.1 hX hbl hbA hS (jm_inL_ok h158) dL_law_730 ?_
        obtain ⟨a159, o159, hf⟩ := jm_rd_ok hf
        obtain ⟨v159, S159, h159, hf⟩ := jm_bd_ok hf
        have e159 := moX7_childCount a159 (xs ((x3 + 1) : Int32).toNatClampNeg) _ _ _ h159
        have g159 := jm_mo hf (jm_Mo_rd (fun _ => jm_Mo_rd (fun _ => jm_Mo_bd (moX8_childCount _ _) (fun _ => jm_Mo_if (moL_law_18 L xs _ _ _ _) (jm_Mo_rd (fun _ => jm_Mo_ret _))))))
        refine jw_cV (q := (RX7, TX7, 12)) C hJ hS o159 rfl (cX7_childCount_C l G a159 (xs ((x3 + 1) : Int32).toNatClampNeg) h159) (cwV 1 C.2.2.2.2.1 gL_law_X7_childCount rfl rfl rfl (by decide +kernel) ⟨Nat.le_of_ble_eq_true rfl, Nat.le_of_ble_eq_true rfl⟩) rfl hl.1 rfl (Nat.le_of_ble_eq_true rfl) dL_law_731 ⟨by show cells + 0 ≤ 600000; omega, by show slots + 0 ≤ 7302250; omega⟩ (fun H locs hJ hS => ?_)
        replace hc1 : cells + 0 + n0 ≤ S159.2.1 := by omega
        replace hc2 : slots + 0 + m0 ≤ S159.2.2.1 := by omega
        generalize cells + 0 = cells at hc1 ⊢
        generalize slots + 0 = slots at hc2 ⊢
        refine jw_aload_n C dL_law_734 rfl (hl.at 2 rfl) ?_
        refine lv_aload_n C.1 C.2.1 dL_law_735 rfl (hl.at 0 rfl) ?_
        refine lv_iload_n C.1 C.2.1 dL_law_736 rfl (hl.at 3 rfl) ?_
        refine lv_iconst (v := 1) C.1 C.2.1 dL_law_737 (by decide) ?_
        refine lv_iadd C.1 C.2.1 dL_law_738 ?_
        obtain ⟨u160, h160, hf⟩ := jm_rd_ok hf
        refine va_sld C.1 C.2.1 hX hbl hbA hS (jm_inL_ok h160) dL_law_739 ?_
        obtain ⟨a161, o161, hf⟩ := jm_rd_ok hf
        obtain ⟨v161, S161, h161, hf⟩ := jm_bd_ok hf
        have e161 := moX8_childCount a161 (xs ((x3 + 1) : Int32).toNatClampNeg) _ _ _ h161
        have g161 := jm_mo hf (jm_Mo_if (moL_law_18 L xs _ _ _ _) (jm_Mo_rd (fun _ => jm_Mo_ret _)))
        refine jw_cV (q := (RX8, TX8, 29)) C hJ hS o161 rfl (cX8_childCount_C l G a161 (xs ((x3 + 1) : Int32).toNatClampNeg) h161) (cwV 1 C.2.2.2.2.1 gL_law_X8_childCount rfl rfl rfl (by decide +kernel) ⟨Nat.le_of_ble_eq_true rfl, Nat.le_of_ble_eq_true rfl⟩) rfl hl.1 rfl (Nat.le_of_ble_eq_true rfl) dL_law_740 ⟨by show cells + 0 ≤ 600000; omega, by show slots + 0 ≤ 7302250; omega⟩ (fun H locs hJ hS => ?_)
        replace hc1 : cells + 0 + n0 ≤ S161.2.1 := by omega
        replace hc2 : slots + 0 + m0 ≤ S161.2.2.1 := by omega
        generalize cells + 0 = cells at hc1 ⊢
        generalize slots + 0 = slots at hc2 ⊢
        refine lv_icmp_eq (tgt := 804) C.1 C.2.1 dL_law_743 (by decide) (fun hq162 => ?_) (fun hq162 => ?_)
        · replace hf := jm_ift hf hq162
          refine jw_iinc (v := x3 + 3) C 3 dL_law_804 hl rfl (by rfl) (by decide) rfl (fun ls hl => ?_)
          refine lv_goto (tgt := 18) C.1 C.2.1 dL_law_807 (by decide) ?_
          exact ih x1 x2 (x3 + 3) hf hJ hS (hl.sub [1, 2, 3, 0] rfl) hc1 hc2
        · replace hf := jm_iff hf hq162
          refine lv_iconst (v := 0) C.1 C.2.1 dL_law_746 (by decide) ?_
          obtain ⟨u163, z163, hf⟩ := jm_rd_ok hf
          obtain ⟨hv, rfl⟩ := jm_ret_ok hf
          first
            | exact absurd hv (by decide)
            | exact va_forget (fun q hq => hlo ▸ hS.2.2 q hq) (W.widen (k := 600000) (n := 7302250) (by omega) (by omega) (lw_ret C.1 C.2.1 C.2.2.2.2.2.1 C.2.2.2.2.2.2.1 dL_law_747))
      replace hf := jm_iff hf hs9_25
      by_cases hs9_26 : ((xs (x3 : Int32).toNatClampNeg) &&& 31) = 26
      · replace hf := jm_ift hf hs9_26
        refine lv_tableIn (off := 716) (tgt := 748) C.1 C.2.1 dL_law_32 (by rw [hs9_26]; decide) (by rw [hs9_26]; decide) (by rw [hs9_26]; rfl) (by decide) ?_
        refine jw_aload_n C dL_law_748 rfl (hl.at 1 rfl) ?_
        refine lv_aload_n C.1 C.2.1 dL_law_749 rfl (hl.at 0 rfl) ?_
        refine lv_iload_n C.1 C.2.1 dL_law_750 rfl (hl.at 3 rfl) ?_
        refine lv_iconst (v := 1) C.1 C.2.1 dL_law_751 (by decide) ?_
        refine lv_iadd C.1 C.2.1 dL_law_752 ?_
        obtain ⟨u164, h164, hf⟩ := jm_rd_ok hf
        refine va_sld C.1 C.2.1 hX hbl hbA hS (jm_inL_ok h164) dL_law_753 ?_
        obtain ⟨a165, o165, hf⟩ := jm_rd_ok hf
        obtain ⟨v165, S165, h165, hf⟩ := jm_bd_ok hf
        have e165 := moX7_nodeCount a165 (xs ((x3 + 1) : Int32).toNatClampNeg) _ _ _ h165
        have g165 := jm_mo hf (jm_Mo_rd (fun _ => jm_Mo_rd (fun _ => jm_Mo_bd (moX8_nodeCount _ _) (fun _ => jm_Mo_if (moL_law_18 L xs _ _ _ _) (jm_Mo_rd (fun _ => jm_Mo_ret _))))))
        refine jw_cV (q := (RX7, TX7, 12)) C hJ hS o165 rfl (cX7_nodeCount_C l G a165 (xs ((x3 + 1) : Int32).toNatClampNeg) h165) (cwV 1 C.2.2.2.2.1 gL_law_X7_nodeCount rfl rfl rfl (by decide +kernel) ⟨Nat.le_of_ble_eq_true rfl, Nat.le_of_ble_eq_true rfl⟩) rfl hl.1 rfl (Nat.le_of_ble_eq_true rfl) dL_law_754 ⟨by show cells + 0 ≤ 600000; omega, by show slots + 0 ≤ 7302250; omega⟩ (fun H locs hJ hS => ?_)
        replace hc1 : cells + 0 + n0 ≤ S165.2.1 := by omega
        replace hc2 : slots + 0 + m0 ≤ S165.2.2.1 := by omega
        generalize cells + 0 = cells at hc1 ⊢
        generalize slots + 0 = slots at hc2 ⊢
        refine jw_aload_n C dL_law_757 rfl (hl.at 2 rfl) ?_
        refine lv_aload_n C.1 C.2.1 dL_law_758 rfl (hl.at 0 rfl) ?_
        refine lv_iload_n C.1 C.2.1 dL_law_759 rfl (hl.at 3 rfl) ?_
        refine lv_iconst (v := 1) C.1 C.2.1 dL_law_760 (by decide) ?_
        refine lv_iadd C.1 C.2.1 dL_law_761 ?_
        obtain ⟨u166, h166, hf⟩ := jm_rd_ok hf
        refine va_sld C.1 C.2.1 hX hbl hbA hS (jm_inL_ok h166) dL_law_762 ?_
        obtain ⟨a167, o167, hf⟩ := jm_rd_ok hf
        obtain ⟨v167, S167, h167, hf⟩ := jm_bd_ok hf
        have e167 := moX8_nodeCount a167 (xs ((x3 + 1) : Int32).toNatClampNeg) _ _ _ h167
        have g167 := jm_mo hf (jm_Mo_if (moL_law_18 L xs _ _ _ _) (jm_Mo_rd (fun _ => jm_Mo_ret _)))
        refine jw_cV (q := (RX8, TX8, 29)) C hJ hS o167 rfl (cX8_nodeCount_C l G a167 (xs ((x3 + 1) : Int32).toNatClampNeg) h167) (cwV 1 C.2.2.2.2.1 gL_law_X8_nodeCount rfl rfl rfl (by decide +kernel) ⟨Nat.le_of_ble_eq_true rfl, Nat.le_of_ble_eq_true rfl⟩) rfl hl.1 rfl (Nat.le_of_ble_eq_true rfl) dL_law_763 ⟨by show cells + 0 ≤ 600000; omega, by show slots + 0 ≤ 7302250; omega⟩ (fun H locs hJ hS => ?_)
        replace hc1 : cells + 0 + n0 ≤ S167.2.1 := by omega
        replace hc2 : slots + 0 + m0 ≤ S167.2.2.1 := by omega
        generalize cells + 0 = cells at hc1 ⊢
        generalize slots + 0 = slots at hc2 ⊢
        refine lv_icmp_eq (tgt := 804) C.1 C.2.1 dL_law_766 (by decide) (fun hq168 => ?_) (fun hq168 => ?_)
        · replace hf := jm_ift hf hq168
          refine jw_iinc (v := x3 + 3) C 3 dL_law_804 hl rfl (by rfl) (by decide) rfl (fun ls hl => ?_)
          refine lv_goto (tgt := 18) C.1 C.2.1 dL_law_807 (by decide) ?_
          exact ih x1 x2 (x3 + 3) hf hJ hS (hl.sub [1, 2, 3, 0] rfl) hc1 hc2
        · replace hf := jm_iff hf hq168
          refine lv_iconst (v := 0) C.1 C.2.1 dL_law_769 (by decide) ?_
          obtain ⟨u169, z169, hf⟩ := jm_rd_ok hf
          obtain ⟨hv, rfl⟩ := jm_ret_ok hf
          first
            | exact absurd hv (by decide)
            | exact va_forget (fun q hq => hlo ▸ hS.2.2 q hq) (W.widen (k := 600000) (n := 7302250) (by omega) (by omega) (lw_ret C.1 C.2.1 C.2.2.2.2.2.1 C.2.2.2.2.2.2.1 dL_law_770))
      replace hf := jm_iff hf hs9_26
      by_cases hs9_27 : ((xs (x3 : Int32).toNatClampNeg) &&& 31) = 27
      · replace hf := jm_ift hf hs9_27
        refine lv_tableIn (off := 739) (tgt := 771) C.1 C.2.1 dL_law_32 (by rw [hs9_27]; decide) (by rw [hs9_27]; decide) (by rw [hs9_27]; rfl) (by decide) ?_
        refine jw_aload_n C dL_law_771 rfl (hl.at 1 rfl) ?_
        refine lv_aload_n C.1 C.2.1 dL_law_772 rfl (hl.at 0 rfl) ?_
        refine lv_iload_n C.1 C.2.1 dL_law_773 rfl (hl.at 3 rfl) ?_
        refine lv_iconst (v := 1) C.1 C.2.1 dL_law_774 (by decide) ?_
        refine lv_iadd C.1 C.2.1 dL_law_775 ?_
        obtain ⟨u170, h170, hf⟩ := jm_rd_ok hf
        refine va_sld C.1 C.2.1 hX hbl hbA hS (jm_inL_ok h170) dL_law_776 ?_
        refine lv_aload_n C.1 C.2.1 dL_law_777 rfl (hl.at 0 rfl) ?_
        refine lv_iload_n C.1 C.2.1 dL_law_778 rfl (hl.at 3 rfl) ?_
        refine lv_iconst (v := 2) C.1 C.2.1 dL_law_779 (by decide) ?_
        refine lv_iadd C.1 C.2.1 dL_law_780 ?_
        obtain ⟨u171, h171, hf⟩ := jm_rd_ok hf
        refine va_sld C.1 C.2.1 hX hbl hbA hS (jm_inL_ok h171) dL_law_781 ?_
        obtain ⟨a172, o172, hf⟩ := jm_rd_ok hf
        obtain ⟨v172, S172, h172, hf⟩ := jm_bd_ok hf
        have e172 := moX7_commonLog a172 (xs ((x3 + 1) : Int32).toNatClampNeg) (xs ((x3 + 2) : Int32).toNatClampNeg) _ _ _ h172
        have g172 := jm_mo hf (jm_Mo_rd (fun _ => jm_Mo_rd (fun _ => jm_Mo_rd (fun _ => jm_Mo_bd (moX8_commonLog _ _ _) (fun _ => jm_Mo_if (moL_law_18 L xs _ _ _ _) (jm_Mo_rd (fun _ => jm_Mo_ret _)))))))
        refine jw_cV (q := (RX7, TX7, 12)) C hJ hS o172 rfl (cX7_commonLog_C l G a172 (xs ((x3 + 1) : Int32).toNatClampNeg) (xs ((x3 + 2) : Int32).toNatClampNeg) h172) (cwV 2 C.2.2.2.2.1 gL_law_X7_commonLog rfl rfl rfl (by decide +kernel) ⟨Nat.le_of_ble_eq_true rfl, Nat.le_of_ble_eq_true rfl⟩) rfl hl.1 rfl (Nat.le_of_ble_eq_true rfl) dL_law_782 ⟨by show cells + 0 ≤ 600000; omega, by show slots + 0 ≤ 7302250; omega⟩ (fun H locs hJ hS => ?_)
        replace hc1 : cells + 0 + n0 ≤ S172.2.1 := by omega
        replace hc2 : slots + 0 + m0 ≤ S172.2.2.1 := by omega
        generalize cells + 0 = cells at hc1 ⊢
        generalize slots + 0 = slots at hc2 ⊢
        refine jw_aload_n C dL_law_785 rfl (hl.at 2 rfl) ?_
        refine lv_aload_n C.1 C.2.1 dL_law_786 rfl (hl.at 0 rfl) ?_
        refine lv_iload_n C.1 C.2.1 dL_law_787 rfl (hl.at 3 rfl) ?_
        refine lv_iconst (v := 1) C.1 C.2.1 dL_law_788 (by decide) ?_
        refine lv_iadd C.1 C.2.1 dL_law_789 ?_
        obtain ⟨u173, h173, hf⟩ := jm_rd_ok hf
        refine va_sld C.1 C.2.1 hX hbl hbA hS (jm_inL_ok h173) dL_law_790 ?_
        refine lv_aload_n C.1 C.2.1 dL_law_791 rfl (hl.at 0 rfl) ?_
        refine lv_iload_n C.1 C.2.1 dL_law_792 rfl (hl.at 3 rfl) ?_
        refine lv_iconst (v := 2) C.1 C.2.1 dL_law_793 (by decide) ?_
        refine lv_iadd C.1 C.2.1 dL_law_794 ?_
        obtain ⟨u174, h174, hf⟩ := jm_rd_ok hf
        refine va_sld C.1 C.2.1 hX hbl hbA hS (jm_inL_ok h174) dL_law_795 ?_
        obtain ⟨a175, o175, hf⟩ := jm_rd_ok hf
        obtain ⟨v175, S175, h175, hf⟩ := jm_bd_ok hf
        have e175 := moX8_commonLog a175 (xs ((x3 + 1) : Int32).toNatClampNeg) (xs ((x3 + 2) : Int32).toNatClampNeg) _ _ _ h175
        have g175 := jm_mo hf (jm_Mo_if (moL_law_18 L xs _ _ _ _) (jm_Mo_rd (fun _ => jm_Mo_ret _)))
        refine jw_cV (q := (RX8, TX8, 29)) C hJ hS o175 rfl (cX8_commonLog_C l G a175 (xs ((x3 + 1) : Int32).toNatClampNeg) (xs ((x3 + 2) : Int32).toNatClampNeg) h175) (cwV 2 C.2.2.2.2.1 gL_law_X8_commonLog rfl rfl rfl (by decide +kernel) ⟨Nat.le_of_ble_eq_true rfl, Nat.le_of_ble_eq_true rfl⟩) rfl hl.1 rfl (Nat.le_of_ble_eq_true rfl) dL_law_796 ⟨by show cells + 0 ≤ 600000; omega, by show slots + 0 ≤ 7302250; omega⟩ (fun H locs hJ hS => ?_)
        replace hc1 : cells + 0 + n0 ≤ S175.2.1 := by omega
        replace hc2 : slots + 0 + m0 ≤ S175.2.2.1 := by omega
        generalize cells + 0 = cells at hc1 ⊢
        generalize slots + 0 = slots at hc2 ⊢
        refine lv_icmp_eq (tgt := 804) C.1 C.2.1 dL_law_799 (by decide) (fun hq176 => ?_) (fun hq176 => ?_)
        · replace hf := jm_ift hf hq176
          refine jw_iinc (v := x3 + 3) C 3 dL_law_804 hl rfl (by rfl) (by decide) rfl (fun ls hl => ?_)
          refine lv_goto (tgt := 18) C.1 C.2.1 dL_law_807 (by decide) ?_
          exact ih x1 x2 (x3 + 3) hf hJ hS (hl.sub [1, 2, 3, 0] rfl) hc1 hc2
        · replace hf := jm_iff hf hq176
          refine lv_iconst (v := 0) C.1 C.2.1 dL_law_802 (by decide) ?_
          obtain ⟨u177, z177, hf⟩ := jm_rd_ok hf
          obtain ⟨hv, rfl⟩ := jm_ret_ok hf
          first
            | exact absurd hv (by decide)
            | exact va_forget (fun q hq => hlo ▸ hS.2.2 q hq) (W.widen (k := 600000) (n := 7302250) (by omega) (by omega) (lw_ret C.1 C.2.1 C.2.2.2.2.2.1 C.2.2.2.2.2.2.1 dL_law_803))
      replace hf := jm_iff hf hs9_27
      refine lv_tableOut (tgt := 804) C.1 C.2.1 dL_law_32 (jm_out28 hs9_0 hs9_1 hs9_2 hs9_3 hs9_4 hs9_5 hs9_6 hs9_7 hs9_8 hs9_9 hs9_10 hs9_11 hs9_12 hs9_13 hs9_14 hs9_15 hs9_16 hs9_17 hs9_18 hs9_19 hs9_20 hs9_21 hs9_22 hs9_23 hs9_24 hs9_25 hs9_26 hs9_27) (by decide) ?_
      refine jw_iinc (v := x3 + 3) C 3 dL_law_804 hl rfl (by rfl) (by decide) rfl (fun ls hl => ?_)
      refine lv_goto (tgt := 18) C.1 C.2.1 dL_law_807 (by decide) ?_
      exact ih x1 x2 (x3 + 3) hf hJ hS (hl.sub [1, 2, 3, 0] rfl) hc1 hc2
theorem moL_law (L : Nat) (xs : Nat → Int32) : jm_Mo (fL_law L xs) := by
  unfold fL_law
  exact jm_Mo_bd jm_Mo_new (fun _ => jm_Mo_bd (moX7_init _) (fun _ => jm_Mo_bd jm_Mo_new (fun _ => jm_Mo_bd (moX8_init _) (fun _ => moL_law_18 L xs _ _ _ _))))
set_option maxHeartbeats 4000000 in
set_option maxRecDepth 100000 in
theorem kL_law {L b : Nat} {xs : Nat → Int32} {Sf : jm_S} (hX : va_X b L xs s s.heap) (hbl : b < s.heap.size) (hbA : ¬ jm_A G b) (hlo : G.2.2.2.2.1 = s.heap.size) (C : jm_C G cL_law 4 RL wsL_law (some .boolean) p s m #[Value.ref b] meth c) {n0 m0 : Nat} (hr1 : Sf.2.1 ≤ n0 + 600000) (hr2 : Sf.2.2.1 ≤ m0 + 7302250) : ∀ {S : jm_S} {H : Heap} {locs : List Loc} {ls : Array Slot} {cells slots : Nat}, fL_law L xs S = some (1, Sf) → jm_J G S H → va_S (jm_A G) s.heap H locs → jm_L ls 4 [(0, .inr (some b))] → cells + n0 ≤ S.2.1 → slots + m0 ≤ S.2.2.1 → W p l e room_1 s m #[Value.ref b] below meth c H locs cells slots (lw_Z below #[Value.ref b] s) (F0 m 0 ls []) := by
  intro S H locs ls cells slots hf hJ hS hl hc1 hc2
  unfold fL_law at hf
  obtain ⟨q1, S1, h1, hf⟩ := jm_bd_ok hf
  have e1 := jm_new_st h1
  have g1 := jm_mo hf (jm_Mo_bd (moX7_init _) (fun _ => jm_Mo_bd jm_Mo_new (fun _ => jm_Mo_bd (moX8_init _) (fun _ => moL_law_18 L xs _ _ _ _))))
  simp only [List.length_cons, List.length_nil] at e1
  refine jw_new (Cn := RX7) (T := TX7) (N := 12) C hJ hS h1 rfl inlX7 tyX7 tyX7_ok (by decide +kernel) rfl (jm_w C 0 rfl) (jm_w C 1 rfl) (jm_w C 2 rfl) (by show cells + 1 ≤ 600000; omega) (by show slots + 12 ≤ 7302250; omega) dL_law_0 (fun H hJ hS => ?_)
  replace hc1 : cells + 1 + n0 ≤ S1.2.1 := by omega
  replace hc2 : slots + 12 + m0 ≤ S1.2.2.1 := by omega
  generalize cells + 1 = cells at hc1 ⊢
  generalize slots + 12 = slots at hc2 ⊢
  refine lv_dup C.1 C.2.1 dL_law_3 (jm_catr _) ?_
  obtain ⟨v2, S2, h2, hf⟩ := jm_bd_ok hf
  have e2 := moX7_init q1 _ _ _ h2
  have g2 := jm_mo hf (jm_Mo_bd jm_Mo_new (fun _ => jm_Mo_bd (moX8_init _) (fun _ => moL_law_18 L xs _ _ _ _)))
  refine jw_cI C hJ hS (cX7_init_C l G q1 h2 (S2.2.1 - S1.2.1) (S2.2.2.1 - S1.2.2.1) (by omega) (by omega)) (cwI 0 C.2.2.2.2.1 gL_law_X7_init rfl rfl rfl (jm_w C 2 rfl) (jm_w C 6 rfl) (jm_w C 7 rfl) rfl (by decide +kernel) ⟨Nat.le_of_ble_eq_true rfl, Nat.le_of_ble_eq_true rfl⟩) rfl hl.1 rfl (Nat.le_of_ble_eq_true rfl) dL_law_4 ⟨by show cells + _ ≤ 600000; omega, by show slots + _ ≤ 7302250; omega⟩ (fun H locs hJ hS => ?_)
  replace hc1 : cells + (S2.2.1 - S1.2.1) + n0 ≤ S2.2.1 := by omega
  replace hc2 : slots + (S2.2.2.1 - S1.2.2.1) + m0 ≤ S2.2.2.1 := by omega
  generalize cells + (S2.2.1 - S1.2.1) = cells at hc1 ⊢
  generalize slots + (S2.2.2.1 - S1.2.2.1) = slots at hc2 ⊢
  refine jw_astore_n C dL_law_7 rfl hl (by decide) rfl (fun ls hl => ?_)
  obtain ⟨q3, S3, h3, hf⟩ := jm_bd_ok hf
  have e3 := jm_new_st h3
  have g3 := jm_mo hf (jm_Mo_bd (moX8_init _) (fun _ => moL_law_18 L xs _ _ _ _))
  simp only [List.length_cons, List.length_nil] at e3
  refine jw_new (Cn := RX8) (T := TX8) (N := 29) C hJ hS h3 rfl inlX8 tyX8 tyX8_ok (by decide +kernel) rfl (jm_w C 3 rfl) (jm_w C 4 rfl) (jm_w C 5 rfl) (by show cells + 1 ≤ 600000; omega) (by show slots + 29 ≤ 7302250; omega) dL_law_8 (fun H hJ hS => ?_)
  replace hc1 : cells + 1 + n0 ≤ S3.2.1 := by omega
  replace hc2 : slots + 29 + m0 ≤ S3.2.2.1 := by omega
  generalize cells + 1 = cells at hc1 ⊢
  generalize slots + 29 = slots at hc2 ⊢
  refine lv_dup C.1 C.2.1 dL_law_11 (jm_catr _) ?_
  obtain ⟨v4, S4, h4, hf⟩ := jm_bd_ok hf
  have e4 := moX8_init q3 _ _ _ h4
  have g4 := jm_mo hf (moL_law_18 L xs _ _ _ _)
  refine jw_cI C hJ hS (cX8_init_C l G q3 h4 (S4.2.1 - S3.2.1) (S4.2.2.1 - S3.2.2.1) (by omega) (by omega)) (cwI 0 C.2.2.2.2.1 gL_law_X8_init rfl rfl rfl (jm_w C 5 rfl) (jm_w C 119 rfl) (jm_w C 120 rfl) rfl (by decide +kernel) ⟨Nat.le_of_ble_eq_true rfl, Nat.le_of_ble_eq_true rfl⟩) rfl hl.1 rfl (Nat.le_of_ble_eq_true rfl) dL_law_12 ⟨by show cells + _ ≤ 600000; omega, by show slots + _ ≤ 7302250; omega⟩ (fun H locs hJ hS => ?_)
  replace hc1 : cells + (S4.2.1 - S3.2.1) + n0 ≤ S4.2.1 := by omega
  replace hc2 : slots + (S4.2.2.1 - S3.2.2.1) + m0 ≤ S4.2.2.1 := by omega
  generalize cells + (S4.2.1 - S3.2.1) = cells at hc1 ⊢
  generalize slots + (S4.2.2.1 - S3.2.2.1) = slots at hc2 ⊢
  refine jw_astore_n C dL_law_15 rfl hl (by decide) rfl (fun ls hl => ?_)
  refine lv_iconst (v := 0) C.1 C.2.1 dL_law_16 (by decide) ?_
  refine jw_istore_n C dL_law_17 rfl hl (by decide) rfl (fun ls hl => ?_)
  exact kL_law_18 hX hbl hbA hlo C hr1 hr2 4096 (some q1) (some q3) 0 hf hJ hS (hl.sub [3, 2, 1, 0] rfl) hc1 hc2
end JG
