/-! ===== the machine's instructions over the memory ===== -/
def jm_C (G : jm_G) (cc : ByteArray) (nL : Nat) (own : String) (Ts : List Cond) (rt : Option FieldType) (p : Program) (s : State) (m : MethodId) (args : Array Value) (meth : Method) (c : Code) : Prop :=
  p.tables.exec = Jvm.exec ∧ c.code = cc ∧ c.maxLocals = nL ∧ s.vm.findClass own = some m.cls ∧ (∀ w ∈ Ts, w.before args s = true) ∧ meth.sig.returnType = rt ∧ meth.locks = false ∧ jm_X G s
def jm_L (ls : Array Slot) (n : Nat) (L : List (Nat × jm_V)) : Prop := lv_has ls n (L.map (fun q => (q.1, jm_v q.2)))
def jm_Q (G : jm_G) (v : Option Value) (S : jm_S) : Array Value → State → Outcome → State → Prop := fun _ st oc t => oc = .returned v ∧ jm_J G S t.heap ∧ va_F (jm_A G) st t
def jm_Pc (G : jm_G) (S : jm_S) (av : List Value) : Array Value → State → Prop := fun v U => v = av.toArray ∧ jm_J G S U.heap ∧ jm_X G U
theorem jm_cat (v : jm_V) : (jm_v v).category = 1 := by
  rcases v with x | r
  · rfl
  · cases r <;> rfl
theorem jm_catr (r : Option Nat) : (va_rf r).category = 1 := by cases r <;> rfl
theorem jm_L.at {ls : Array Slot} {n : Nat} {L : List (Nat × jm_V)} (h : jm_L ls n L) (k : Nat) {i : Nat} {v : jm_V} (hk : L[k]? = some (i, v)) : ls[i]? = some (.val (jm_v v)) := by
  refine h.2.2 (i, jm_v v) ?_
  exact List.mem_map.mpr ⟨(i, v), List.mem_of_getElem? hk, rfl⟩
theorem jm_L.sub {ls : Array Slot} {n : Nat} {L L' : List (Nat × jm_V)} (h : jm_L ls n L) (ks : List Nat) (hl : ks.filterMap (fun k => L[k]?) = L') : jm_L ls n L' := by
  refine ⟨h.1, h.2.1, fun q hq => ?_⟩
  obtain ⟨q', h1, h2⟩ := List.mem_map.mp hq
  rw [← hl] at h1
  obtain ⟨k, -, hk⟩ := List.mem_filterMap.mp h1
  exact h.2.2 q (List.mem_map.mpr ⟨q', List.mem_of_getElem? hk, h2⟩)
theorem jm_L.sto {ls : Array Slot} {n i : Nat} {v : jm_V} {L : List (Nat × jm_V)} (h : lv_has ls n ((i, jm_v v) :: (L.map (fun q => (q.1, jm_v q.2))).filter (fun q => !(q.1 == i) && !(q.1 + 1 == i && q.2.category == 2)))) : jm_L ls n ((i, v) :: L.filter (fun q => !(q.1 == i))) := by
  refine ⟨h.1, h.2.1, fun q hq => ?_⟩
  obtain ⟨q', h1, h2⟩ := List.mem_map.mp hq
  refine h.2.2 q ?_
  rcases List.mem_cons.mp h1 with e1 | e1
  · rw [← h2, e1]
    exact List.mem_cons_self
  · obtain ⟨f1, f2⟩ := List.mem_filter.mp e1
    refine List.mem_cons_of_mem _ (List.mem_filter.mpr ⟨List.mem_map.mpr ⟨q', f1, h2⟩, ?_⟩)
    rw [← h2]
    simp only [jm_cat]
    simp only [Bool.and_eq_true]
    exact ⟨f2, by simp⟩
def jm_en : Nat → List Value → List (Nat × Value)
  | _, [] => []
  | i, v :: vs => (i, v) :: jm_en (i + 1) vs
theorem jm_en_eq : ∀ (vs : List jm_V) (i : Nat), lv_args i (vs.map jm_v) = jm_en i (vs.map jm_v)
  | [], _ => rfl
  | v :: vs, i => by
    simp only [List.map_cons, lv_args, jm_en, jm_cat]
    rw [if_neg (by decide), jm_en_eq vs (i + 1)]
def jm_em : Nat → List jm_V → List (Nat × jm_V)
  | _, [] => []
  | i, v :: vs => (i, v) :: jm_em (i + 1) vs
theorem jm_em_eq : ∀ (vs : List jm_V) (i : Nat), (jm_em i vs).map (fun q => (q.1, jm_v q.2)) = jm_en i (vs.map jm_v)
  | [], _ => rfl
  | v :: vs, i => by
    simp only [List.map_cons, jm_em, jm_en]
    rw [jm_em_eq vs (i + 1)]
theorem jm_len : ∀ (vs : List jm_V), (lg_sl (vs.map jm_v)).length = vs.length
  | [] => rfl
  | v :: vs => by
    have := jm_len vs
    simp only [lg_sl, List.map_cons, List.flatMap_cons, jm_cat] at this ⊢
    rw [if_neg (by decide)]
    simp only [List.length_append, List.length_cons, List.length_nil]
    omega
/-- the locals at a method's entry -/
theorem jm_entry (m : MethodId) (vs : List jm_V) {n : Nat} (h : vs.length ≤ n) : ∃ ls : Array Slot, entryFrame m (vs.map jm_v).toArray n = F0 m 0 ls [] ∧ jm_L ls n (jm_em 0 vs) := by
  refine ⟨_, lg_entry_eq m (vs.map jm_v) n, ?_⟩
  have h1 := lv_entry (vs.map jm_v) (n := n) (by rw [jm_len]; exact h)
  unfold jm_L
  rw [jm_em_eq, ← jm_en_eq]
  exact h1
theorem jm_J.ob {G : jm_G} {S : jm_S} {H : Heap} (h : jm_J G S H) {a ci : Nat} {fs : List jm_V} (ha : S.1 a = some (.inr (ci, fs))) : jm_A G a ∧ va_at (jm_D G) vwCl (a, .inr (ci, fs.map jm_v)) H := by
  rcases h.1 a _ ha with ⟨-, q⟩ | q
  · cases q
  · exact q
theorem jm_J.ai {G : jm_G} {S : jm_S} {H : Heap} (h : jm_J G S H) {a t n : Nat} {f : Nat → Int32} (ha : S.1 a = some (.inl (t, n, .inl f))) : jm_A G a ∧ H[a]? = some (vp_cell (G.2.2.1 t) (n, .inl f)) := by
  rcases h.1 a _ ha with ⟨-, q⟩ | q
  · cases q
  · exact q
theorem jm_J.aq {G : jm_G} {S : jm_S} {H : Heap} (h : jm_J G S H) {a t n : Nat} {f : Nat → Option Nat} (ht : t < 6) (ha : S.1 a = some (.inl (t, n, .inr f))) : jm_A G a ∧ H[a]? = some (vp_cell (G.2.2.1 t) (n, .inr (.inr (.inr (.inr f))))) := by
  rcases h.1 a _ ha with ⟨-, q⟩ | q
  · cases q
    omega
  · exact q
theorem jm_S1 {A : Nat → Prop} {H0 H H1 : Heap} {locs : List Loc} {a k : Nat} (h : va_S A H0 H locs) (z : H1.size = H.size) (oq : ∀ q : Nat, q ≠ a → H1[q]? = H[q]?) (ha : A a) : va_S A H0 H1 (locs ++ [⟨a, k⟩]) := h.put z oq ha
section JW
variable {p : Program} {l : Launch} {e : Env} {R : Room} {s : State} {m : MethodId} {args : Array Value} {below : List Frame} {meth : Method} {c : Code} {H : Heap} {locs : List Loc} {cells slots : Nat} {Q : State → Prop}
variable {cc : ByteArray} {pc : Nat} {ls : Array Slot} {rest : List Value} {G : jm_G} {nL : Nat} {own : String} {Ts : List Cond} {rt : Option FieldType} {S : jm_S}
theorem jw_aload_n (C : jm_C G cc nL own Ts rt p s m args meth c) {k : Fin 4} {i : Nat} {r : Option Nat} (hdg : decode cc pc = .ok (.aload_n k, 1)) (hi : (k : Nat) = i) (hl : ls[i]? = some (.val (jm_v (.inr r))))
    (kk : W p l e R s m args below meth c H locs cells slots Q (F0 m (pc + 1) ls (va_rf r :: rest))) : W p l e R s m args below meth c H locs cells slots Q (F0 m pc ls rest) := by
  cases r with
  | none => exact lv_aload_nN C.1 C.2.1 hdg hi hl kk
  | some a => exact lv_aload_n C.1 C.2.1 hdg hi hl kk
theorem jw_aload (C : jm_C G cc nL own Ts rt p s m args meth c) {i : Nat} {r : Option Nat} (hdg : decode cc pc = .ok (.aload i, 2)) (hl : ls[i]? = some (.val (jm_v (.inr r))))
    (kk : W p l e R s m args below meth c H locs cells slots Q (F0 m (pc + 2) ls (va_rf r :: rest))) : W p l e R s m args below meth c H locs cells slots Q (F0 m pc ls rest) := by
  cases r with
  | none => exact lv_aloadN C.1 C.2.1 hdg hl kk
  | some a => exact lv_aload C.1 C.2.1 hdg hl kk
theorem jw_istore_n (C : jm_C G cc nL own Ts rt p s m args meth c) {k : Fin 4} {i : Nat} {x : Int32} {L L' : List (Nat × jm_V)} (hdg : decode cc pc = .ok (.istore_n k, 1)) (hi : (k : Nat) = i) (h : jm_L ls nL L) (hn : i < nL) (hl : (i, .inl x) :: L.filter (fun q => !(q.1 == i)) = L')
    (kk : ∀ ls' : Array Slot, jm_L ls' nL L' → W p l e R s m args below meth c H locs cells slots Q (F0 m (pc + 1) ls' rest)) : W p l e R s m args below meth c H locs cells slots Q (F0 m pc ls (.int x :: rest)) :=
  lv_istore_n C.1 C.2.1 hdg hi h hn rfl (fun ls' h' => kk ls' (hl ▸ jm_L.sto (v := .inl x) h'))
theorem jw_istore (C : jm_C G cc nL own Ts rt p s m args meth c) {i : Nat} {x : Int32} {L L' : List (Nat × jm_V)} (hdg : decode cc pc = .ok (.istore i, 2)) (h : jm_L ls nL L) (hn : i < nL) (hl : (i, .inl x) :: L.filter (fun q => !(q.1 == i)) = L')
    (kk : ∀ ls' : Array Slot, jm_L ls' nL L' → W p l e R s m args below meth c H locs cells slots Q (F0 m (pc + 2) ls' rest)) : W p l e R s m args below meth c H locs cells slots Q (F0 m pc ls (.int x :: rest)) :=
  lv_istore C.1 C.2.1 hdg h hn rfl (fun ls' h' => kk ls' (hl ▸ jm_L.sto (v := .inl x) h'))
theorem jw_astore_n (C : jm_C G cc nL own Ts rt p s m args meth c) {k : Fin 4} {i : Nat} {r : Option Nat} {L L' : List (Nat × jm_V)} (hdg : decode cc pc = .ok (.astore_n k, 1)) (hi : (k : Nat) = i) (h : jm_L ls nL L) (hn : i < nL) (hl : (i, .inr r) :: L.filter (fun q => !(q.1 == i)) = L')
    (kk : ∀ ls' : Array Slot, jm_L ls' nL L' → W p l e R s m args below meth c H locs cells slots Q (F0 m (pc + 1) ls' rest)) : W p l e R s m args below meth c H locs cells slots Q (F0 m pc ls (va_rf r :: rest)) := by
  cases r with
  | none => exact lv_astore_nN C.1 C.2.1 hdg hi h hn rfl (fun ls' h' => kk ls' (hl ▸ jm_L.sto (v := .inr none) h'))
  | some a => exact lv_astore_n C.1 C.2.1 hdg hi h hn rfl (fun ls' h' => kk ls' (hl ▸ jm_L.sto (v := .inr (some a)) h'))
theorem jw_astore (C : jm_C G cc nL own Ts rt p s m args meth c) {i : Nat} {r : Option Nat} {L L' : List (Nat × jm_V)} (hdg : decode cc pc = .ok (.astore i, 2)) (h : jm_L ls nL L) (hn : i < nL) (hl : (i, .inr r) :: L.filter (fun q => !(q.1 == i)) = L')
    (kk : ∀ ls' : Array Slot, jm_L ls' nL L' → W p l e R s m args below meth c H locs cells slots Q (F0 m (pc + 2) ls' rest)) : W p l e R s m args below meth c H locs cells slots Q (F0 m pc ls (va_rf r :: rest)) := by
  cases r with
  | none => exact lv_astoreN C.1 C.2.1 hdg h hn rfl (fun ls' h' => kk ls' (hl ▸ jm_L.sto (v := .inr none) h'))
  | some a => exact lv_astore C.1 C.2.1 hdg h hn rfl (fun ls' h' => kk ls' (hl ▸ jm_L.sto (v := .inr (some a)) h'))
theorem jw_iinc (C : jm_C G cc nL own Ts rt p s m args meth c) {i : Nat} (k : Nat) {n : Int} {x v : Int32} {L L' : List (Nat × jm_V)} (hdg : decode cc pc = .ok (.iinc i n, 3)) (h : jm_L ls nL L) (hk : L[k]? = some (i, .inl x)) (hv : x + Int32.ofInt n = v) (hn : i < nL) (hl : (i, .inl v) :: L.filter (fun q => !(q.1 == i)) = L')
    (kk : ∀ ls' : Array Slot, jm_L ls' nL L' → W p l e R s m args below meth c H locs cells slots Q (F0 m (pc + 3) ls' rest)) : W p l e R s m args below meth c H locs cells slots Q (F0 m pc ls rest) :=
  lv_iinc C.1 C.2.1 hdg h (k := k) (by rw [List.getElem?_map, hk]; rfl) hv hn rfl (fun ls' h' => kk ls' (hl ▸ jm_L.sto (v := .inl v) h'))
theorem jw_ifnull (C : jm_C G cc nL own Ts rt p s m args meth c) {r : Option Nat} {off : Int} {tgt : Nat} (hdg : decode cc pc = .ok (.ifnull off, 3)) (ht : (pc : Int) + off = (tgt : Int))
    (kt : r = none → W p l e R s m args below meth c H locs cells slots Q (F0 m tgt ls rest)) (kf : ¬ r = none → W p l e R s m args below meth c H locs cells slots Q (F0 m (pc + 3) ls rest)) : W p l e R s m args below meth c H locs cells slots Q (F0 m pc ls (va_rf r :: rest)) := by
  cases r with
  | none => exact lv_ifnullN C.1 C.2.1 hdg ht (kt rfl)
  | some a => exact lv_ifnull C.1 C.2.1 hdg (kf (by simp))
theorem jw_ifnonnull (C : jm_C G cc nL own Ts rt p s m args meth c) {r : Option Nat} {off : Int} {tgt : Nat} (hdg : decode cc pc = .ok (.ifnonnull off, 3)) (ht : (pc : Int) + off = (tgt : Int))
    (kt : ¬ r = none → W p l e R s m args below meth c H locs cells slots Q (F0 m tgt ls rest)) (kf : r = none → W p l e R s m args below meth c H locs cells slots Q (F0 m (pc + 3) ls rest)) : W p l e R s m args below meth c H locs cells slots Q (F0 m pc ls (va_rf r :: rest)) := by
  cases r with
  | none => exact lv_ifnonnullN C.1 C.2.1 hdg (kf rfl)
  | some a => exact lv_ifnonnull C.1 C.2.1 hdg ht (kt (by simp))
theorem jm_gv {r : Option Nat} {ci k : Nat} {v : jm_V} {fs : List jm_V} (hv : fs[k]? = some v) : (fs.map jm_v)[k]? = some (jm_v v) := by rw [List.getElem?_map, hv]; rfl
theorem jw_get (C : jm_C G cc nL own Ts rt p s m args meth c) (hJ : jm_J G S H) {a ci k idx N : Nat} {Cn ref : String} {T : u_T} {fs : List jm_V} {v : jm_V} (ha : S.1 a = some (.inr (ci, fs))) (hv : fs[k]? = some v) (hc : vwCl[ci]? = some (Cn, T, N)) (hin : ∀ w ∈ u_ws Cn T N, w ∈ Ts) (hk : k < N) (hlink : (Cond.fieldLink own idx ref (T k).2.1 (T k).2.2.1).before args s = true) (hsame : ∀ x, s.fieldFound? (T k).1 (T k).2.1 (T k).2.2.1 = some x → s.fieldFound? ref (T k).2.1 (T k).2.2.1 = some x) (hdg : decode cc pc = .ok (.getfield idx, 3))
    (kk : W p l e R s m args below meth c H locs cells slots Q (F0 m (pc + 3) ls (jm_v v :: rest))) : W p l e R s m args below meth c H locs cells slots Q (F0 m pc ls (.ref a :: rest)) := by
  have hP : va_P (jm_D G) vwCl [(a, .inr (ci, fs.map jm_v))] H := by
    intro j q hj
    have hz : j < 1 := (List.getElem?_eq_some_iff.mp hj).1
    rw [show j = 0 by omega] at hj
    cases hj
    exact (hJ.ob ha).2
  exact va_get C.1 C.2.1 C.2.2.2.2.1 hin C.2.2.2.1 C.2.2.2.2.2.2.2.1 hP 0 rfl hc k hk hlink hsame (jm_gv (r := none) (ci := 0) hv) hdg kk
theorem jw_gI (C : jm_C G cc nL own Ts rt p s m args meth c) (hJ : jm_J G S H) {r : Option Nat} {ci k idx N : Nat} {Cn ref : String} {T : u_T} {v : Int32} (hv : jm_gI r ci k S = some v) (hc : vwCl[ci]? = some (Cn, T, N)) (hin : ∀ w ∈ u_ws Cn T N, w ∈ Ts) (hk : k < N) (hlink : (Cond.fieldLink own idx ref (T k).2.1 (T k).2.2.1).before args s = true) (hsame : ∀ x, s.fieldFound? (T k).1 (T k).2.1 (T k).2.2.1 = some x → s.fieldFound? ref (T k).2.1 (T k).2.2.1 = some x) (hdg : decode cc pc = .ok (.getfield idx, 3))
    (kk : W p l e R s m args below meth c H locs cells slots Q (F0 m (pc + 3) ls (.int v :: rest))) : W p l e R s m args below meth c H locs cells slots Q (F0 m pc ls (va_rf r :: rest)) := by
  unfold jm_gI at hv
  split at hv
  · cases hv
  · next q hq =>
    obtain ⟨h1, h2⟩ := jm_ob_ok hq
    split at hv
    · next w hw =>
      cases hv
      rw [h1]
      exact jw_get C hJ h2 hw hc hin hk hlink hsame hdg kk
    · cases hv
theorem jw_gR (C : jm_C G cc nL own Ts rt p s m args meth c) (hJ : jm_J G S H) {r : Option Nat} {ci k idx N : Nat} {Cn ref : String} {T : u_T} {v : Option Nat} (hv : jm_gR r ci k S = some v) (hc : vwCl[ci]? = some (Cn, T, N)) (hin : ∀ w ∈ u_ws Cn T N, w ∈ Ts) (hk : k < N) (hlink : (Cond.fieldLink own idx ref (T k).2.1 (T k).2.2.1).before args s = true) (hsame : ∀ x, s.fieldFound? (T k).1 (T k).2.1 (T k).2.2.1 = some x → s.fieldFound? ref (T k).2.1 (T k).2.2.1 = some x) (hdg : decode cc pc = .ok (.getfield idx, 3))
    (kk : W p l e R s m args below meth c H locs cells slots Q (F0 m (pc + 3) ls (va_rf v :: rest))) : W p l e R s m args below meth c H locs cells slots Q (F0 m pc ls (va_rf r :: rest)) := by
  unfold jm_gR at hv
  split at hv
  · cases hv
  · next q hq =>
    obtain ⟨h1, h2⟩ := jm_ob_ok hq
    split at hv
    · next w hw =>
      cases hv
      rw [h1]
      exact jw_get C hJ h2 hw hc hin hk hlink hsame hdg kk
    · cases hv
theorem jm_p_ok {r : Option Nat} {ci k : Nat} {v : jm_V} {S1 : jm_S} (h : jm_p r ci k v S = some S1) : ∃ (a : Nat) (fs : List jm_V), r = some a ∧ S.1 a = some (.inr (ci, fs)) ∧ k < fs.length ∧ S1 = (va_up S.1 a (some (.inr (ci, fs.set k v))), S.2) := by
  unfold jm_p at h
  split at h
  · cases h
  · next q hq =>
    obtain ⟨h1, h2⟩ := jm_ob_ok hq
    split at h
    · next hk =>
      cases h
      exact ⟨q.1, q.2, h1, h2, hk, rfl⟩
    · cases h
theorem jm_mset (fs : List jm_V) (k : Nat) (v : jm_V) : (fs.set k v).map jm_v = (fs.map jm_v).set k (jm_v v) := List.map_set
/-- putfield of a field that isn't final -/
theorem jw_p (C : jm_C G cc nL own Ts rt p s m args meth c) (hJ : jm_J G S H) (hS : va_S (jm_A G) s.heap H locs) {r : Option Nat} {ci k idx N : Nat} {Cn ref : String} {T : u_T} {x : jm_V} {S1 : jm_S} {ty : FieldType} (hv : jm_p r ci k x S = some S1) (hc : vwCl[ci]? = some (Cn, T, N)) (hin : ∀ w ∈ u_ws Cn T N, w ∈ Ts) (ty0 : Nat → FieldType) (hty : ∀ k, k < N → parseFieldDescriptor (T k).2.2.1 = some (ty0 k)) (hnm : ∀ a, a < N → ∀ b, b < N → a ≠ b → (T a).2.1 ≠ (T b).2.1) (hk : k < N) (hlink : (Cond.fieldLink own idx ref (T k).2.1 (T k).2.2.1).before args s = true) (hsame : ∀ x, s.fieldFound? (T k).1 (T k).2.1 (T k).2.2.1 = some x → s.fieldFound? ref (T k).2.1 (T k).2.2.1 = some x) (hfin : (T k).2.2.2 = false) (hd : parseFieldDescriptor (T k).2.2.1 = some ty) (hn : narrow ty (jm_v x) = jm_v x) (hfit : fits ty (jm_v x) = true) (hdg : decode cc pc = .ok (.putfield idx, 3))
    (kk : ∀ (H1 : Heap) (locs1 : List Loc), jm_J G S1 H1 → va_S (jm_A G) s.heap H1 locs1 → W p l e R s m args below meth c H1 locs1 cells slots Q (F0 m (pc + 3) ls rest)) : W p l e R s m args below meth c H locs cells slots Q (F0 m pc ls (jm_v x :: va_rf r :: rest)) := by
  obtain ⟨a, fs, rfl, ha, hl, rfl⟩ := jm_p_ok hv
  have hts := C.2.2.2.2.1
  have hown := C.2.2.2.1
  have hK := C.2.2.2.2.2.2.2.1
  have hap := va_apart (own := own) hts hin ty0 hty hnm hK hc
  obtain ⟨hA, r1, h1, cell, q1, q2, q3, q4⟩ := hJ.ob ha
  have hr : r1 = (Cn, T, N) := Option.some.inj (h1.symm.trans hc)
  subst hr
  obtain ⟨hSl, hfc, kC, hkC, hkind⟩ := hK.1 ci _ hc
  obtain ⟨cf, kf, fi, f, hi, hsl⟩ := hSl k hk
  have hlay := hts _ (hin _ (u_in_lay hk))
  unfold u_lay at hlay
  rw [if_neg (by rw [hfin]; decide)] at hlay
  have hst := (u_facts hfc hkC (u_lays hts hin hk) hi).1
  have h6 := u_store hfc hkC hkind hlay hi hd hn hfit
  refine W.putK C.1 C.2.1 (f := f) ⟨hown, hlink, ⟨_, _, _, hsame _ hi⟩, hst⟩ (by rw [q2]; exact h6) q1 q3 (by rw [hsl]; exact k2_hasslot (q4 k hk)) rfl rfl hdg fun H' e1 e2 e3 => ?_
  rw [hsl] at e1 ⊢
  refine kk H' _ (hJ.set ha (by intro q; cases q) ?_ e2 e3) (hS.put e2 e3 hA)
  refine ⟨_, hc, t_OB.to (V := updV (vp_V (fs.map jm_v)) k (jm_v x)) ⟨_, e1, q2, q3, t_set q4 hap hk (jm_v x)⟩ (fun j _ => ?_)⟩
  show _ = vp_V ((fs.set k x).map jm_v) j
  rw [jm_mset]
  exact vp_updV_set (by rw [List.length_map]; exact hl) (jm_v x) j
/-- putfield of a final field, in its constructor -/
theorem jw_pF (C : jm_C G cc nL own Ts rt p s m args meth c) (hJ : jm_J G S H) (hS : va_S (jm_A G) s.heap H locs) {r : Option Nat} {ci k idx N : Nat} {Cn ref : String} {T : u_T} {x : jm_V} {S1 : jm_S} {ty : FieldType} (hv : jm_p r ci k x S = some S1) (hc : vwCl[ci]? = some (Cn, T, N)) (hin : ∀ w ∈ u_ws Cn T N, w ∈ Ts) (ty0 : Nat → FieldType) (hty : ∀ k, k < N → parseFieldDescriptor (T k).2.2.1 = some (ty0 k)) (hnm : ∀ a, a < N → ∀ b, b < N → a ≠ b → (T a).2.1 ≠ (T b).2.1) (hk : k < N) (hlink : (Cond.fieldLink own idx ref (T k).2.1 (T k).2.2.1).before args s = true) (hsame : ∀ x, s.fieldFound? (T k).1 (T k).2.1 (T k).2.2.1 = some x → s.fieldFound? ref (T k).2.1 (T k).2.2.1 = some x) (hfin : (T k).2.2.2 = true) (hin2 : meth.name = "<init>") (hdecl : (T k).1 = own) (hd : parseFieldDescriptor (T k).2.2.1 = some ty) (hn : narrow ty (jm_v x) = jm_v x) (hfit : fits ty (jm_v x) = true) (hdg : decode cc pc = .ok (.putfield idx, 3))
    (kk : ∀ (H1 : Heap) (locs1 : List Loc), jm_J G S1 H1 → va_S (jm_A G) s.heap H1 locs1 → W p l e R s m args below meth c H1 locs1 cells slots Q (F0 m (pc + 3) ls rest)) : W p l e R s m args below meth c H locs cells slots Q (F0 m pc ls (jm_v x :: va_rf r :: rest)) := by
  obtain ⟨a, fs, rfl, ha, hl, rfl⟩ := jm_p_ok hv
  have hts := C.2.2.2.2.1
  have hown := C.2.2.2.1
  have hK := C.2.2.2.2.2.2.2.1
  have hap := va_apart (own := own) hts hin ty0 hty hnm hK hc
  obtain ⟨hA, r1, h1, cell, q1, q2, q3, q4⟩ := hJ.ob ha
  have hr : r1 = (Cn, T, N) := Option.some.inj (h1.symm.trans hc)
  subst hr
  obtain ⟨hSl, hfc, kC, hkC, hkind⟩ := hK.1 ci _ hc
  obtain ⟨cf, kf, fi, f, hi, hsl⟩ := hSl k hk
  have hlay := hts _ (hin _ (u_in_lay hk))
  unfold u_lay at hlay
  rw [if_pos hfin] at hlay
  have hst := (u_facts hfc hkC (u_lays hts hin hk) hi).1
  have hcf : m.cls = cf := by
    obtain ⟨_, _, c', _, _, _, -, -, hf', -, -, -, hown2, -⟩ := Cond.laysFinal_spec hlay
    have e1 : c' = cf := by have := hi.symm.trans hf'; simp at this; exact this.1.symm
    rw [hdecl] at hown2
    rw [← e1]; exact Option.some.inj (hown.symm.trans hown2)
  have h6 := u_fits hfc hkC hkind (Or.inr hlay) hi hd hn hfit
  refine W.putFinK C.1 C.2.1 hown hlink (hsame _ hi) hst hcf hin2 (by rw [q2]; exact h6) q1 q3 (by rw [hsl]; exact k2_hasslot (q4 k hk)) rfl rfl hdg fun H' e1 e2 e3 => ?_
  rw [hsl] at e1 ⊢
  refine kk H' _ (hJ.set ha (by intro q; cases q) ?_ e2 e3) (hS.put e2 e3 hA)
  refine ⟨_, hc, t_OB.to (V := updV (vp_V (fs.map jm_v)) k (jm_v x)) ⟨_, e1, q2, q3, t_set q4 hap hk (jm_v x)⟩ (fun j _ => ?_)⟩
  show _ = vp_V ((fs.set k x).map jm_v) j
  rw [jm_mset]
  exact vp_updV_set (by rw [List.length_map]; exact hl) (jm_v x) j
theorem jm_nz {v : Int32} {S : jm_S} {u : Unit} (h : jm_z v S = some u) : narrow .boolean (.int v) = .int v ∧ fits .boolean (.int v) = true ∧ vp_nar .boolean v = v := by
  unfold jm_z at h
  split at h
  · next hv =>
    rcases hv with rfl | rfl
    · exact ⟨by decide +kernel, by decide +kernel, by decide +kernel⟩
    · exact ⟨by decide +kernel, by decide +kernel, by decide +kernel⟩
  · cases h
theorem jm_nr (n : String) (r : Option Nat) : narrow (.object n) (va_rf r) = va_rf r ∧ fits (.object n) (va_rf r) = true := by cases r <;> exact ⟨rfl, rfl⟩
theorem jm_nra (t : FieldType) (r : Option Nat) : narrow (.array t) (va_rf r) = va_rf r ∧ fits (.array t) (va_rf r) = true := by cases r <;> exact ⟨rfl, rfl⟩
theorem jw_new (C : jm_C G cc nL own Ts rt p s m args meth c) (hJ : jm_J G S H) (hS : va_S (jm_A G) s.heap H locs) {ci idx N : Nat} {Cn : String} {T : u_T} {fs : List jm_V} {q : Nat} {S1 : jm_S} (hv : jm_new ci fs S = some (q, S1)) (hc : vwCl[ci]? = some (Cn, T, N)) (hin : ∀ w ∈ u_ws Cn T N, w ∈ Ts) (ty0 : Nat → FieldType) (hty : ∀ k, k < N → parseFieldDescriptor (T k).2.2.1 = some (ty0 k)) (hfs : ∀ j, j < N → defaultValue (ty0 j) = vp_V (fs.map jm_v) j) (hN : fs.length = N) (hcl : (Cond.classLink own idx Cn).before args s = true) (hinst : (Cond.instantiable Cn N).before args s = true) (hini : (Cond.initialized Cn).before args s = true) (hcells : cells + 1 ≤ R.cells) (hslots : slots + N ≤ R.slots) (hdg : decode cc pc = .ok (.new idx, 3))
    (kk : ∀ (H1 : Heap), jm_J G S1 H1 → va_S (jm_A G) s.heap H1 locs → W p l e R s m args below meth c H1 locs (cells + 1) (slots + N) Q (F0 m (pc + 3) ls (va_rf (some q) :: rest))) : W p l e R s m args below meth c H locs cells slots Q (F0 m pc ls rest) := by
  cases hv
  have hK := C.2.2.2.2.2.2.2.1
  have hKn := hK.1 ci _ hc
  have hlo := C.2.2.2.2.2.2.2.2.2.2.1
  refine W.newcK C.1 C.2.1 C.2.2.2.1 hcl hinst hini rfl hdg hcells hslots hKn.2.1 rfl fun H1 kC hkC e1 z1 o1 => ?_
  have hA : jm_A G H.size := Nat.le_trans hlo hS.1
  have hJ1 := hJ.new (e := .inr (ci, fs)) (H1 := H1) hA ⟨_, hc, (u_born ty0 C.2.2.2.2.1 hin hKn hkC e1 hty).to hfs⟩ z1 o1 fs.length
  have h1 := kk H1 hJ1 (jm_S.put hS z1 o1)
  have e2 : S.2.1 = H.size := hJ.2.1.symm
  rw [e2] at h1
  exact h1
theorem jm_na_ok {t : Nat} {n : Int32} {q : Option Nat} {S1 : jm_S} (h : jm_na t n S = some (q, S1)) : ¬ n < 0 ∧ n.toNatClampNeg ≤ 1000000 ∧ q = some S.2.1 ∧ S1 = (va_up S.1 S.2.1 (some (.inl (t, n.toNatClampNeg, .inl (fun _ => 0)))), S.2.1 + 1, S.2.2.1 + n.toNatClampNeg, S.2.2.2) := by
  unfold jm_na at h
  split at h
  · cases h
  · next hn =>
    cases h
    exact ⟨fun z => hn (Or.inl z), Nat.not_lt.mp (fun z => hn (Or.inr z)), rfl, rfl⟩
theorem jm_nq_ok {t : Nat} {n : Int32} {q : Option Nat} {S1 : jm_S} (h : jm_nq t n S = some (q, S1)) : ¬ n < 0 ∧ n.toNatClampNeg ≤ 1000000 ∧ q = some S.2.1 ∧ S1 = (va_up S.1 S.2.1 (some (.inl (t, n.toNatClampNeg, .inr (fun _ => none)))), S.2.1 + 1, S.2.2.1 + n.toNatClampNeg, S.2.2.2) := by
  unfold jm_nq at h
  split at h
  · cases h
  · next hn =>
    cases h
    exact ⟨fun z => hn (Or.inl z), Nat.not_lt.mp (fun z => hn (Or.inr z)), rfl, rfl⟩
theorem jw_naI (C : jm_C G cc nL own Ts rt p s m args meth c) (hJ : jm_J G S H) (hS : va_S (jm_A G) s.heap H locs) {n : Int32} {q : Option Nat} {S1 : jm_S} (hv : jm_na 0 n S = some (q, S1)) (harr : (Cond.arrayClass .int).before args s = true) (hcells : cells + 1 ≤ R.cells) (hslots : slots + n.toNatClampNeg ≤ R.slots) (hdg : decode cc pc = .ok (.newarray .int, 2))
    (kk : ∀ (H1 : Heap), jm_J G S1 H1 → va_S (jm_A G) s.heap H1 locs → W p l e R s m args below meth c H1 locs (cells + 1) (slots + n.toNatClampNeg) Q (F0 m (pc + 2) ls (va_rf q :: rest))) : W p l e R s m args below meth c H locs cells slots Q (F0 m pc ls (.int n :: rest)) := by
  obtain ⟨h1, h2, rfl, rfl⟩ := jm_na_ok hv
  have hK := C.2.2.2.2.2.2.2.1
  have hlo := C.2.2.2.2.2.2.2.2.2.2.1
  refine va_newaK C.1 C.2.1 (atype := .int) harr rfl hdg rfl h1 rfl (by show _ * 4 ≤ _; omega) hcells hslots rfl fun H1 cA e1 z1 o1 hAr hNm => ?_
  have e3 : cA = G.2.2.1 0 := Option.some.inj (hNm.symm.trans (va_nm_int (hK.2 0 _ rfl).2))
  subst e3
  have hA : jm_A G H.size := Nat.le_trans hlo hS.1
  have hJ1 := hJ.new (e := .inl (0, n.toNatClampNeg, .inl (fun _ => 0))) (H1 := H1) hA e1 z1 o1 n.toNatClampNeg
  have h1 := kk H1 hJ1 (jm_S.put hS z1 o1)
  have e2 : S.2.1 = H.size := hJ.2.1.symm
  rw [e2] at h1
  exact h1
theorem jw_naZ (C : jm_C G cc nL own Ts rt p s m args meth c) (hJ : jm_J G S H) (hS : va_S (jm_A G) s.heap H locs) {n : Int32} {q : Option Nat} {S1 : jm_S} (hv : jm_na 1 n S = some (q, S1)) (harr : (Cond.arrayClass .boolean).before args s = true) (hcells : cells + 1 ≤ R.cells) (hslots : slots + n.toNatClampNeg ≤ R.slots) (hdg : decode cc pc = .ok (.newarray .boolean, 2))
    (kk : ∀ (H1 : Heap), jm_J G S1 H1 → va_S (jm_A G) s.heap H1 locs → W p l e R s m args below meth c H1 locs (cells + 1) (slots + n.toNatClampNeg) Q (F0 m (pc + 2) ls (va_rf q :: rest))) : W p l e R s m args below meth c H locs cells slots Q (F0 m pc ls (.int n :: rest)) := by
  obtain ⟨h1, h2, rfl, rfl⟩ := jm_na_ok hv
  have hK := C.2.2.2.2.2.2.2.1
  have hlo := C.2.2.2.2.2.2.2.2.2.2.1
  refine va_newaK C.1 C.2.1 (atype := .boolean) harr rfl hdg rfl h1 rfl (by show _ * 1 ≤ _; omega) hcells hslots rfl fun H1 cA e1 z1 o1 hAr hNm => ?_
  have e3 : cA = G.2.2.1 1 := Option.some.inj (hNm.symm.trans (va_nm_boolean (hK.2 1 _ rfl).2))
  subst e3
  have hA : jm_A G H.size := Nat.le_trans hlo hS.1
  have hJ1 := hJ.new (e := .inl (1, n.toNatClampNeg, .inl (fun _ => 0))) (H1 := H1) hA e1 z1 o1 n.toNatClampNeg
  have h1 := kk H1 hJ1 (jm_S.put hS z1 o1)
  have e2 : S.2.1 = H.size := hJ.2.1.symm
  rw [e2] at h1
  exact h1
theorem jw_nq (C : jm_C G cc nL own Ts rt p s m args meth c) (hJ : jm_J G S H) (hS : va_S (jm_A G) s.heap H locs) {t idx : Nat} {Cn : String} {n : Int32} {q : Option Nat} {S1 : jm_S} (hv : jm_nq t n S = some (q, S1)) (hcl : (Cond.classLink own idx Cn).before args s = true) (hover : va_AO Cn s) (ht : (jm_tys G)[t]? = some (G.2.2.1 t, .object Cn)) (hcells : cells + 1 ≤ R.cells) (hslots : slots + n.toNatClampNeg ≤ R.slots) (hdg : decode cc pc = .ok (.anewarray idx, 3))
    (kk : ∀ (H1 : Heap), jm_J G S1 H1 → va_S (jm_A G) s.heap H1 locs → W p l e R s m args below meth c H1 locs (cells + 1) (slots + n.toNatClampNeg) Q (F0 m (pc + 3) ls (va_rf q :: rest))) : W p l e R s m args below meth c H locs cells slots Q (F0 m pc ls (.int n :: rest)) := by
  obtain ⟨h1, h2, rfl, rfl⟩ := jm_nq_ok hv
  have hK := C.2.2.2.2.2.2.2.1
  have hlo := C.2.2.2.2.2.2.2.2.2.2.1
  refine W.anew C.1 C.2.1 C.2.2.2.1 hcl (va_AO.use hover) rfl hdg rfl h1 (by omega) hcells hslots fun cA kA comp f1 f2 f3 f4 => ?_
  generalize hH1 : H.push ({ cls := cA, slots := Array.replicate n.toNatClampNeg .null, vm := .none } : Cell) = H1
  have z1 : H1.size = H.size + 1 := by rw [← hH1, Array.size_push]
  have e1 : H1[H.size]? = some (arrV cA n.toNatClampNeg (fun _ => .null)) := by rw [← hH1, Array.getElem?_push_size, ← arrV_new]
  have o1 : ∀ q : Nat, q < H.size → H1[q]? = H[q]? := fun q hq => by rw [← hH1, Array.getElem?_push, if_neg (Nat.ne_of_lt hq)]
  have e3 : cA = G.2.2.1 t := by
    obtain ⟨-, -, -, -, -, g4⟩ := (hK.2 t _ ht).2
    exact Option.some.inj (f1.symm.trans g4)
  subst e3
  have hA : jm_A G H.size := Nat.le_trans hlo hS.1
  have hJ1 := hJ.new (e := .inl (t, n.toNatClampNeg, .inr (fun _ => none))) (H1 := H1) hA e1 z1 o1 n.toNatClampNeg
  have h1 := kk H1 hJ1 (jm_S.put hS z1 o1)
  have e2 : S.2.1 = H.size := hJ.2.1.symm
  rw [e2] at h1
  exact h1
theorem jw_li (C : jm_C G cc nL own Ts rt p s m args meth c) (hJ : jm_J G S H) {r : Option Nat} {t : Nat} {v : Int32} (hv : jm_li r t S = some v) {ty : FieldType} (ht : (jm_tys G)[t]? = some (G.2.2.1 t, ty)) (hdg : decode cc pc = .ok (.arraylength, 1))
    (kk : W p l e R s m args below meth c H locs cells slots Q (F0 m (pc + 1) ls (.int v :: rest))) : W p l e R s m args below meth c H locs cells slots Q (F0 m pc ls (va_rf r :: rest)) := by
  unfold jm_li at hv
  split at hv
  · cases hv
  · next q hq =>
    obtain ⟨rfl, h2⟩ := jm_ai_ok hq
    cases hv
    exact W.alen (n := Int32.ofNat q.2.1) C.1 C.2.1 (hJ.ai h2).2 ((C.2.2.2.2.2.2.2.1.2 t _ ht).1 q.2.1 (fun j => .int (q.2.2 j))) (by rw [vp_cell_i, arrV_size] <;> rfl) rfl rfl hdg kk
theorem jw_lq (C : jm_C G cc nL own Ts rt p s m args meth c) (hJ : jm_J G S H) (hS : va_S (jm_A G) s.heap H locs) {r : Option Nat} {t : Nat} {v : Int32} (hv : jm_lq r t S = some v) {ty : FieldType} (ht6 : t < 6) (ht : (jm_tys G)[t]? = some (G.2.2.1 t, ty)) (hdg : decode cc pc = .ok (.arraylength, 1))
    (kk : W p l e R s m args below meth c H locs cells slots Q (F0 m (pc + 1) ls (.int v :: rest))) : W p l e R s m args below meth c H locs cells slots Q (F0 m pc ls (va_rf r :: rest)) := by
  unfold jm_lq at hv
  split at hv
  · next h0 =>
    split at hv
    · cases hv
    · cases hv
      rw [h0.2, hJ.2.2]
      exact va_tlen C.1 C.2.1 C.2.2.2.2.2.2.2.2.2.1 hS rfl hdg kk
  · split at hv
    · cases hv
    · next q hq =>
      obtain ⟨rfl, h2⟩ := jm_aq_ok hq
      cases hv
      exact W.alen (n := Int32.ofNat q.2.1) C.1 C.2.1 (hJ.aq ht6 h2).2 ((C.2.2.2.2.2.2.2.1.2 t _ ht).1 q.2.1 (fun j => va_rf (q.2.2 j))) (by rw [vp_cell_q, arrV_size] <;> rfl) rfl rfl hdg kk
theorem jm_gi_ok {r : Option Nat} {t : Nat} {i v : Int32} (h : jm_gi r t i S = some v) : ∃ (a n : Nat) (f : Nat → Int32), r = some a ∧ S.1 a = some (.inl (t, n, .inl f)) ∧ vp_in i n ∧ v = f i.toNatClampNeg := by
  unfold jm_gi at h
  split at h
  · cases h
  · next q hq =>
    obtain ⟨h1, h2⟩ := jm_ai_ok hq
    split at h
    · cases h
    · next hn =>
      cases h
      exact ⟨q.1, q.2.1, q.2.2, h1, h2, hn, rfl⟩
theorem jw_iaload (C : jm_C G cc nL own Ts rt p s m args meth c) (hJ : jm_J G S H) {r : Option Nat} {i v : Int32} (hv : jm_gi r 0 i S = some v) (hdg : decode cc pc = .ok (.iaload, 1))
    (kk : W p l e R s m args below meth c H locs cells slots Q (F0 m (pc + 1) ls (.int v :: rest))) : W p l e R s m args below meth c H locs cells slots Q (F0 m pc ls (.int i :: va_rf r :: rest)) := by
  obtain ⟨a, n, f, rfl, h2, hin, rfl⟩ := jm_gi_ok hv
  have hlt : i.toNatClampNeg < n := Nat.not_le.mp fun q => hin (Or.inr q)
  exact W.iald (v := .int (f i.toNatClampNeg)) C.1 C.2.1 (hJ.ai h2).2 ((C.2.2.2.2.2.2.2.1.2 0 _ rfl).1 n (fun j => .int (f j))) (fun q => by cases q) (by show ¬ (i < 0 ∨ (arrV _ _ _).slots.size ≤ _); rw [arrV_size]; exact hin) (by show (arrV _ _ _).slots[_]? = _; rw [arrV_read _ _ hlt]) rfl rfl hdg kk
theorem jw_zaload (C : jm_C G cc nL own Ts rt p s m args meth c) (hJ : jm_J G S H) {r : Option Nat} {i v : Int32} (hv : jm_gi r 1 i S = some v) (hdg : decode cc pc = .ok (.baload, 1))
    (kk : W p l e R s m args below meth c H locs cells slots Q (F0 m (pc + 1) ls (.int v :: rest))) : W p l e R s m args below meth c H locs cells slots Q (F0 m pc ls (.int i :: va_rf r :: rest)) := by
  obtain ⟨a, n, f, rfl, h2, hin, rfl⟩ := jm_gi_ok hv
  have hlt : i.toNatClampNeg < n := Nat.not_le.mp fun q => hin (Or.inr q)
  exact W.zald (v := .int (f i.toNatClampNeg)) C.1 C.2.1 (hJ.ai h2).2 ((C.2.2.2.2.2.2.2.1.2 1 _ rfl).1 n (fun j => .int (f j))) (fun q => by cases q) (by show ¬ (i < 0 ∨ (arrV _ _ _).slots.size ≤ _); rw [arrV_size]; exact hin) (by show (arrV _ _ _).slots[_]? = _; rw [arrV_read _ _ hlt]) rfl rfl hdg kk
theorem jm_gq_ok {r : Option Nat} {t : Nat} {i : Int32} {v : Option Nat} (h : jm_gq r t i S = some v) : ∃ (a n : Nat) (f : Nat → Option Nat), r = some a ∧ S.1 a = some (.inl (t, n, .inr f)) ∧ vp_in i n ∧ v = f i.toNatClampNeg := by
  unfold jm_gq at h
  split at h
  · cases h
  · next q hq =>
    obtain ⟨h1, h2⟩ := jm_aq_ok hq
    split at h
    · cases h
    · next hn =>
      cases h
      exact ⟨q.1, q.2.1, q.2.2, h1, h2, hn, rfl⟩
theorem jw_aaload (C : jm_C G cc nL own Ts rt p s m args meth c) (hJ : jm_J G S H) {r : Option Nat} {t : Nat} {i : Int32} {v : Option Nat} (hv : jm_gq r t i S = some v) {Cn : String} (ht6 : t < 6) (ht : (jm_tys G)[t]? = some (G.2.2.1 t, .object Cn)) (hdg : decode cc pc = .ok (.aaload, 1))
    (kk : W p l e R s m args below meth c H locs cells slots Q (F0 m (pc + 1) ls (va_rf v :: rest))) : W p l e R s m args below meth c H locs cells slots Q (F0 m pc ls (.int i :: va_rf r :: rest)) := by
  obtain ⟨a, n, f, rfl, h2, hin, rfl⟩ := jm_gq_ok hv
  have hlt : i.toNatClampNeg < n := Nat.not_le.mp fun q => hin (Or.inr q)
  exact W.aald (v := va_rf (f i.toNatClampNeg)) (ty := .object Cn) C.1 C.2.1 (hJ.aq ht6 h2).2 ((C.2.2.2.2.2.2.2.1.2 t _ ht).1 n (fun j => va_rf (f j))) rfl (fun q => by cases q) (by show ¬ (i < 0 ∨ (arrV _ _ _).slots.size ≤ _); rw [arrV_size]; exact hin) (by show (arrV _ _ _).slots[_]? = _; rw [arrV_read _ _ hlt]) rfl rfl hdg kk
theorem jm_si_ok {r : Option Nat} {t : Nat} {i x : Int32} {S1 : jm_S} (h : jm_si r t i x S = some S1) : ∃ (a n : Nat) (f : Nat → Int32), r = some a ∧ S.1 a = some (.inl (t, n, .inl f)) ∧ vp_in i n ∧ S1 = (va_up S.1 a (some (.inl (t, n, .inl (upd f i.toNatClampNeg x)))), S.2) := by
  unfold jm_si at h
  split at h
  · cases h
  · next q hq =>
    obtain ⟨h1, h2⟩ := jm_ai_ok hq
    split at h
    · cases h
    · next hn =>
      cases h
      exact ⟨q.1, q.2.1, q.2.2, h1, h2, hn, rfl⟩
theorem jw_iastore (C : jm_C G cc nL own Ts rt p s m args meth c) (hJ : jm_J G S H) (hS : va_S (jm_A G) s.heap H locs) {r : Option Nat} {i x : Int32} {S1 : jm_S} (hv : jm_si r 0 i x S = some S1) (hdg : decode cc pc = .ok (.iastore, 1))
    (kk : ∀ (H1 : Heap) (locs1 : List Loc), jm_J G S1 H1 → va_S (jm_A G) s.heap H1 locs1 → W p l e R s m args below meth c H1 locs1 cells slots Q (F0 m (pc + 1) ls rest)) : W p l e R s m args below meth c H locs cells slots Q (F0 m pc ls (.int x :: .int i :: va_rf r :: rest)) := by
  obtain ⟨a, n, f, rfl, h2, hin, rfl⟩ := jm_si_ok hv
  obtain ⟨hA, hc⟩ := hJ.ai h2
  refine W.iast C.1 C.2.1 hc ((C.2.2.2.2.2.2.2.1.2 0 _ rfl).1 n (fun j => .int (f j))) (fun q => by cases q) (by show ¬ (i < 0 ∨ (arrV _ _ _).slots.size ≤ _); rw [arrV_size]; exact hin) rfl rfl hdg fun H1 e z oq => ?_
  refine kk H1 _ (hJ.set h2 (by intro q; cases q) ?_ z oq) (hS.put z oq hA)
  show H1[a]? = some (vp_cell _ _)
  rw [e]
  rw [vp_cell_i, vp_cell_i, arrV_store]
  congr 2
  funext q
  by_cases hq : q = i.toNatClampNeg
  · subst hq
    simp [updV, upd]
  · simp [updV, upd, hq]
theorem jw_zastore (C : jm_C G cc nL own Ts rt p s m args meth c) (hJ : jm_J G S H) (hS : va_S (jm_A G) s.heap H locs) {r : Option Nat} {i x : Int32} {S1 : jm_S} {u : Unit} (hz : jm_z x S = some u) (hv : jm_si r 1 i x S = some S1) (hdg : decode cc pc = .ok (.bastore, 1))
    (kk : ∀ (H1 : Heap) (locs1 : List Loc), jm_J G S1 H1 → va_S (jm_A G) s.heap H1 locs1 → W p l e R s m args below meth c H1 locs1 cells slots Q (F0 m (pc + 1) ls rest)) : W p l e R s m args below meth c H locs cells slots Q (F0 m pc ls (.int x :: .int i :: va_rf r :: rest)) := by
  obtain ⟨a, n, f, rfl, h2, hin, rfl⟩ := jm_si_ok hv
  obtain ⟨hA, hc⟩ := hJ.ai h2
  refine W.zast C.1 C.2.1 hc ((C.2.2.2.2.2.2.2.1.2 1 _ rfl).1 n (fun j => .int (f j))) (fun q => by cases q) (by show ¬ (i < 0 ∨ (arrV _ _ _).slots.size ≤ _); rw [arrV_size]; exact hin) rfl rfl hdg fun H1 e z oq => ?_
  rw [(jm_nz hz).1] at e
  refine kk H1 _ (hJ.set h2 (by intro q; cases q) ?_ z oq) (hS.put z oq hA)
  show H1[a]? = some (vp_cell _ _)
  rw [e]
  rw [vp_cell_i, vp_cell_i, arrV_store]
  congr 2
  funext q
  by_cases hq : q = i.toNatClampNeg
  · subst hq
    simp [updV, upd]
  · simp [updV, upd, hq]
theorem jm_P1 (hJ : jm_J G S H) {a ci : Nat} {fs : List jm_V} (ha : S.1 a = some (.inr (ci, fs))) : va_P (jm_D G) vwCl [(a, .inr (ci, fs.map jm_v))] H := by
  intro j q hj
  have hz : j < 1 := (List.getElem?_eq_some_iff.mp hj).1
  rw [show j = 0 by omega] at hj
  cases hj
  exact (hJ.ob ha).2
theorem jm_recv (hX : jm_X G s) (hJ : jm_J G S H) {a ci : Nat} {fs : List jm_V} {q : vw_C} (ha : S.1 a = some (.inr (ci, fs))) (hc : vwCl[ci]? = some q) : ∃ cell : Cell, H[a]? = some cell ∧ cell.vm.isStatics = false ∧ s.vm.findClass q.1 = some cell.cls := va_recv (q0 := 0) hX.1 (jm_P1 hJ ha) hc rfl
theorem jm_any (hX : jm_X G s) (hJ : jm_J G S H) {t v : Nat} {E : String} (ht : (jm_tys G)[t]? = some (G.2.2.1 t, .object E)) (h : jm_fit S t (some v) = true) : va_Any E s H v := by
  simp only [jm_fit] at h
  split at h
  · next q hq =>
    obtain ⟨ci, fs⟩ := q
    have hP := jm_P1 hJ hq
    have key : ∀ r : vw_C, vwCl[ci]? = some r → (∀ comp c0 : ClassId, s.vm.findClass E = some comp → s.vm.findClass r.1 = some c0 → s.vm.assignable c0 comp = true) → va_Any E s H v := fun r hr hasg => va_rAny (q0 := 0) hX.1 hP rfl hr hasg
    have same : ∀ comp c0 : ClassId, s.vm.findClass E = some comp → s.vm.findClass E = some c0 → s.vm.assignable c0 comp = true := fun comp c0 h1 h2 => by
      cases h1.symm.trans h2
      exact va_asg _ _
    have cst : ∀ B : String, va_Nw (.castable B "java/lang/Object") s → ∀ comp c0 : ClassId, s.vm.findClass "java/lang/Object" = some comp → s.vm.findClass B = some c0 → s.vm.assignable c0 comp = true := fun B hB comp c0 h1 h2 => by
      obtain ⟨c', t', f1, f2, f3⟩ := Cond.castable_spec (va_Nw.use (A := #[]) rfl hB)
      cases h1.symm.trans f2
      cases h2.symm.trans f1
      exact f3
    simp only [Bool.or_eq_true, Bool.and_eq_true, beq_iff_eq] at h
    rcases h with ((⟨h1, h2 | h2⟩ | ⟨h1, h2⟩) | ⟨h1, h2⟩) | ⟨h1, h2⟩
    · subst h1; subst h2; cases ht; exact key _ rfl (cst _ hX.2.2.2.2.2.1.1)
    · subst h1; subst h2; cases ht; exact key _ rfl (cst _ hX.2.2.2.2.2.1.2)
    · subst h1; subst h2; cases ht; exact key _ rfl same
    · subst h1; subst h2; cases ht; exact key _ rfl same
    · subst h1; subst h2; cases ht; exact key _ rfl same
  · cases h
theorem jm_sq_ok {r : Option Nat} {t : Nat} {i : Int32} {x : Option Nat} {S1 : jm_S} (h : jm_sq r t i x S = some S1) : ∃ (a n : Nat) (f : Nat → Option Nat), r = some a ∧ S.1 a = some (.inl (t, n, .inr f)) ∧ vp_in i n ∧ jm_fit S t x = true ∧ S1 = (va_up S.1 a (some (.inl (t, n, .inr (va_up f i.toNatClampNeg x)))), S.2) := by
  unfold jm_sq at h
  split at h
  · cases h
  · next q hq =>
    obtain ⟨h1, h2⟩ := jm_aq_ok hq
    split at h
    · cases h
    · next hn =>
      split at h
      · next hf =>
        cases h
        exact ⟨q.1, q.2.1, q.2.2, h1, h2, hn, hf, rfl⟩
      · cases h
theorem jw_aastore (C : jm_C G cc nL own Ts rt p s m args meth c) (hJ : jm_J G S H) (hS : va_S (jm_A G) s.heap H locs) {r x : Option Nat} {t : Nat} {i : Int32} {S1 : jm_S} (hv : jm_sq r t i x S = some S1) {E : String} (ht6 : t < 6) (ht : (jm_tys G)[t]? = some (G.2.2.1 t, .object E)) (hdg : decode cc pc = .ok (.aastore, 1))
    (kk : ∀ (H1 : Heap) (locs1 : List Loc), jm_J G S1 H1 → va_S (jm_A G) s.heap H1 locs1 → W p l e R s m args below meth c H1 locs1 cells slots Q (F0 m (pc + 1) ls rest)) : W p l e R s m args below meth c H locs cells slots Q (F0 m pc ls (va_rf x :: .int i :: va_rf r :: rest)) := by
  obtain ⟨a, n, f, rfl, h2, hin, hfit, rfl⟩ := jm_sq_ok hv
  obtain ⟨hA, hc⟩ := hJ.aq ht6 h2
  have hX := C.2.2.2.2.2.2.2
  have hne : (.inl (t, n, .inr f) : jm_E) ≠ jm_fz := by
    intro q
    cases q
    omega
  have fin : ∀ (H1 : Heap), H1[a]? = some ((vp_cell (G.2.2.1 t) (n, .inr (.inr (.inr (.inr f))))).setSlot i.toNatClampNeg (va_rf x)) → H1.size = H.size → (∀ q : Nat, q ≠ a → H1[q]? = H[q]?) → W p l e R s m args below meth c H1 (locs ++ [⟨a, i.toNatClampNeg⟩]) cells slots Q (F0 m (pc + 1) ls rest) := by
    intro H1 e z oq
    refine kk H1 _ (hJ.set h2 hne ?_ z oq) (hS.put z oq hA)
    show H1[a]? = some (vp_cell _ _)
    rw [e]
    rw [vp_cell_q, vp_cell_q, arrV_store]
    congr 2
    funext q
    by_cases hq : q = i.toNatClampNeg
    · subst hq
      simp [updV, va_up]
    · simp [updV, va_up, hq]
  have hlt : i.toNatClampNeg < n := Nat.not_le.mp fun q => hin (Or.inr q)
  have h0 : ¬ i < 0 := fun q => hin (Or.inl q)
  cases x with
  | none => exact va_WaastN (C := E) C.1 C.2.1 hc ((hX.1.2 t _ ht).1 n (fun j => va_rf (f j))) (fun h => by cases h) (by show ¬ (i < 0 ∨ (arrV _ _ _).slots.size ≤ _); rw [arrV_size]; exact hin) rfl rfl hdg fin
  | some v =>
    obtain ⟨cellV, g1, g3, ⟨kC, hkC⟩, hasg⟩ := jm_any hX hJ ht hfit
    obtain ⟨kA, comp, k1, k2, k3, -⟩ := (hX.1.2 t _ ht).2
    obtain ⟨kE, hkE, -⟩ := Vm.findClass_spec k3
    exact W.aast C.1 C.2.1 hc (fun q h => by cases h) (fun h => by cases h) k1 k2 rfl hkE ⟨h0, by show _ < (arrV _ _ _).slots.size; rw [arrV_size]; exact hlt⟩ g1 (fun q h => by rw [h] at g3; cases g3) hkC (hasg _ k3) rfl rfl hdg fin
theorem jm_ck_ok {r : Option Nat} {ci : Nat} {u : Unit} (h : jm_ck r ci S = some u) : r = none ∨ ∃ (a : Nat) (fs : List jm_V), r = some a ∧ S.1 a = some (.inr (ci, fs)) := by
  unfold jm_ck at h
  split at h
  · exact Or.inl rfl
  · next b =>
    split at h
    · cases h
    · next q hq =>
      obtain ⟨h1, h2⟩ := jm_ob_ok hq
      exact Or.inr ⟨q.1, q.2, h1, h2⟩
theorem jw_ck (C : jm_C G cc nL own Ts rt p s m args meth c) (hJ : jm_J G S H) {r : Option Nat} {ci idx : Nat} {q : vw_C} {u : Unit} (hv : jm_ck r ci S = some u) (hc : vwCl[ci]? = some q) (hlink : (Cond.classLink own idx q.1).before args s = true) (hdg : decode cc pc = .ok (.checkcast idx, 3))
    (kk : W p l e R s m args below meth c H locs cells slots Q (F0 m (pc + 3) ls (va_rf r :: rest))) : W p l e R s m args below meth c H locs cells slots Q (F0 m pc ls (va_rf r :: rest)) := by
  rcases jm_ck_ok hv with rfl | ⟨a, fs, rfl, ha⟩
  · exact lv_castN C.1 C.2.1 hdg kk
  · exact va_castS C.1 C.2.1 C.2.2.2.1 hlink (C.2.2.2.2.2.2.2.1.1 ci q hc).2 (jm_recv C.2.2.2.2.2.2.2 hJ ha hc) hdg kk
theorem jm_cp_ok {r0 r1 : Option Nat} {sp dp n : Int32} {S1 : jm_S} (h : jm_cp r0 sp r1 dp n S = some S1) : ∃ (a0 n0 a1 n1 : Nat) (f g : Nat → Option Nat), r0 = some a0 ∧ r1 = some a1 ∧ S.1 a0 = some (.inl (5, n0, .inr f)) ∧ S.1 a1 = some (.inl (5, n1, .inr g)) ∧ ¬ sp < 0 ∧ ¬ dp < 0 ∧ ¬ n < 0 ∧ sp.toNatClampNeg + n.toNatClampNeg ≤ n0 ∧ dp.toNatClampNeg + n.toNatClampNeg ≤ n1 ∧ (∀ i, i < n.toNatClampNeg → jm_fit S 5 (f (sp.toNatClampNeg + i)) = true) ∧ S1 = (va_up S.1 a1 (some (.inl (5, n1, .inr (va_cpy f g sp.toNatClampNeg dp.toNatClampNeg n.toNatClampNeg)))), S.2) := by
  unfold jm_cp at h
  split at h
  · next q0 q1 h0 h1 =>
    obtain ⟨b1, b2⟩ := jm_aq_ok h0
    obtain ⟨c1, c2⟩ := jm_aq_ok h1
    split at h
    · cases h
    · next hn =>
      split at h
      · next ha =>
        cases h
        refine ⟨q0.1, q0.2.1, q1.1, q1.2.1, q0.2.2, q1.2.2, b1, c1, b2, c2, fun z => hn (Or.inl (Or.inl z)), fun z => hn (Or.inl (Or.inr (Or.inl z))), fun z => hn (Or.inl (Or.inr (Or.inr z))), Nat.not_lt.mp fun z => hn (Or.inr (Or.inl z)), Nat.not_lt.mp fun z => hn (Or.inr (Or.inr z)), fun i hi => ?_, rfl⟩
        exact List.all_eq_true.mp ha i (List.mem_range.mpr hi)
      · cases h
  · cases h
theorem jw_cp (C : jm_C G cc nL own Ts rt p s m args meth c) (hJ : jm_J G S H) (hS : va_S (jm_A G) s.heap H locs) {r0 r1 : Option Nat} {sp dp n : Int32} {idx : Nat} {S1 : jm_S} (hv : jm_cp r0 sp r1 dp n S = some S1) (hml : ls.size = nL) (hlink : (Cond.methodLink own idx arraycopyName).before args s = true) (hnat : (Cond.native arraycopyName).before args s = true) (hstat : (Cond.static arraycopyName).before args s = true) (hini : (Cond.initialized "java/lang/System").before args s = true)
    (hframes : 1 ≤ R.frames) (hlocals : (rest.map fun v => v.category).sum + (nativeFrameWords "java/lang/System" "arraycopy" 5 + 11) ≤ R.locals) (hdg : decode cc pc = .ok (.invokestatic idx, 3))
    (kk : ∀ (H1 : Heap) (locs1 : List Loc), jm_J G S1 H1 → va_S (jm_A G) s.heap H1 locs1 → W p l e R s m args below meth c H1 locs1 cells slots Q (F0 m (pc + 3) ls rest)) : W p l e R s m args below meth c H locs cells slots Q (F0 m pc ls (.int n :: .int dp :: va_rf r1 :: .int sp :: va_rf r0 :: rest)) := by
  obtain ⟨a0, n0, a, n1, f, g, rfl, rfl, b0, b1, h1, h2, h3, h4, h5, hel, rfl⟩ := jm_cp_ok hv
  have hX := C.2.2.2.2.2.2.2
  have hK := hX.1
  have nn : ∀ z : Int32, ¬ z < 0 → z.toInt = (z.toNatClampNeg : Int) := by
    intro z hz
    have hz0 : (0 : Int) ≤ z.toInt := by
      have := Int32.not_lt.mp hz
      simpa using Int32.le_iff_toInt_le.mp this
    show z.toInt = ((z.toInt.toNat : Nat) : Int)
    omega
  have hc0 := (hJ.aq (by decide) b0).2
  have hc1 := (hJ.aq (by decide) b1).2
  have hA := (hJ.aq (by decide) b1).1
  intro T hT X
  obtain ⟨-, k0, hk0, cm0, hkk0⟩ := (hK.2 5 _ rfl).1 n0 (fun j => va_rf (f j))
  obtain ⟨-, k1, hk1, cm1, hkk1⟩ := (hK.2 5 _ rfl).1 n1 (fun j => va_rf (g j))
  obtain ⟨vm', X', step⟩ := X.arraycopy C.1 C.2.2.2.1 hlink hnat hstat hini (src := a0) (dst := a) (cs := vp_cell (G.2.2.1 5) (n0, .inr (.inr (.inr (.inr f))))) (cd := vp_cell (G.2.2.1 5) (n1, .inr (.inr (.inr (.inr g))))) (srcPos := sp) (destPos := dp) (n := n) (by rw [hT]; exact hc0) (by rw [hT]; exact hc1)
    (fun _ h => by cases h) (fun _ h => by cases h) (fun h => by cases h) (fun h => by cases h) hk0 hk1 hkk0 hkk1 rfl h1 h2 h3
    (by rw [nn sp h1, nn n h3]; show ¬ _ > ((arrV _ n0 (fun j => va_rf (f j))).slots.size : Int); rw [arrV_size]; omega)
    (by rw [nn dp h2, nn n h3]; show ¬ _ > ((arrV _ n1 (fun j => va_rf (g j))).slots.size : Int); rw [arrV_size]; omega)
    (fun vm₁ hal i hi => by
      have e : (vp_cell (G.2.2.1 5) (n0, .inr (.inr (.inr (.inr f))))).slots.getD (sp.toNatClampNeg + i) .null = va_rf (f (sp.toNatClampNeg + i)) := by
        show (arrV _ n0 (fun j => va_rf (f j))).slots.getD _ _ = _
        rw [Array.getD_eq_getD_getElem?, arrV_read _ _ (by omega)]
        rfl
      rw [e]
      have hfi := hel i hi
      cases hy : f (sp.toNatClampNeg + i) with
      | none => exact ⟨rfl, trivial⟩
      | some y =>
        rw [hy] at hfi
        obtain ⟨cellV, g1, g2, ⟨kC, hkC⟩, hasg⟩ := jm_any (t := 5) hX hJ rfl hfi
        obtain ⟨kA, comp, r1, r2, r3, -⟩ := (hK.2 5 _ rfl).2
        cases hk1.symm.trans r1
        cases hkk1.symm.trans r2
        obtain ⟨kE, hkE, -⟩ := Vm.findClass_spec r3
        obtain ⟨kC', hkC', -⟩ := hal.2.2 _ _ hkC
        obtain ⟨kE', hkE', -⟩ := hal.2.2 _ _ hkE
        refine ⟨rfl, cellV, (show T.heap[y]? = some cellV by rw [hT]; exact g1), (fun q h => by rw [h] at g2; cases g2), ⟨kC', hkC'⟩, ?_, ?_⟩
        · exact ⟨kE', hkE'⟩
        · show vm₁.assignable _ _ = true
          rw [hal.assignable]
          exact hasg _ r3)
    (g := F0 m pc ls (.int n :: .int dp :: .ref a :: .int sp :: .ref a0 :: rest)) rfl (by rw [C.2.2.1]; exact hml) (rest := rest) rfl (by rw [C.2.1]; exact hdg) hframes (by show 2 * 0 + _ + _ ≤ _; omega)
  have e1 : copied (vp_cell (G.2.2.1 5) (n0, .inr (.inr (.inr (.inr f))))) (vp_cell (G.2.2.1 5) (n1, .inr (.inr (.inr (.inr g))))) sp dp n = vp_cell (G.2.2.1 5) (n1, .inr (.inr (.inr (.inr (va_cpy f g sp.toNatClampNeg dp.toNatClampNeg n.toNatClampNeg))))) := by
    rw [vp_cell_q, vp_cell_q, vp_cell_q]
    exact va_copied (fun z => va_rf z) (G.2.2.1 5) (G.2.2.1 5) f g h4
  rw [e1] at X' step
  have hl : a < H.size := (Array.getElem?_eq_some_iff.mp hc1).1
  have hheap : ((T.setVm vm').setCell a (vp_cell (G.2.2.1 5) (n1, .inr (.inr (.inr (.inr (va_cpy f g sp.toNatClampNeg dp.toNatClampNeg n.toNatClampNeg))))))).heap = H.setIfInBounds a (vp_cell (G.2.2.1 5) (n1, .inr (.inr (.inr (.inr (va_cpy f g sp.toNatClampNeg dp.toNatClampNeg n.toNatClampNeg)))))) := by rw [← hT]; rfl
  have oq : ∀ q : Nat, q ≠ a → (H.setIfInBounds a (vp_cell (G.2.2.1 5) (n1, .inr (.inr (.inr (.inr (va_cpy f g sp.toNatClampNeg dp.toNatClampNeg n.toNatClampNeg)))))))[q]? = H[q]? := fun q hq => by simp [Array.getElem?_setIfInBounds, Ne.symm hq]
  obtain ⟨t, a1, b1'⟩ := kk _ _ (hJ.set (e := .inl (5, n1, .inr (va_cpy f g sp.toNatClampNeg dp.toNatClampNeg n.toNatClampNeg))) b1 (by intro q; cases q) (show (H.setIfInBounds a _)[a]? = some _ by simp [jm_e, Array.getElem?_setIfInBounds, hl]) (by simp) oq) ⟨by simp; exact hS.1, fun q g1 g2 => by
      rw [oq q (fun e => g2 (by rw [e]; exact hA))]
      exact hS.2.1 q g1 g2, fun q hq => by
      rcases List.mem_append.mp hq with h | h
      · exact hS.2.2 q h
      · obtain ⟨z, -, hz⟩ := List.mem_map.mp h
        rw [← hz]
        exact hA⟩ _ hheap X'
  exact ⟨t, step t a1, b1'⟩
/-- getClass() of a row of Object -/
def jm_gc (r : Option Nat) (S : jm_S) : Option Unit := match jm_aq S r 5 with
  | none => none
  | some _ => some ()
theorem jw_gc (C : jm_C G cc nL own Ts rt p s m args meth c) (hJ : jm_J G S H) {r : Option Nat} {idx : Nat} {u : Unit} (hv : jm_gc r S = some u) (hml : ls.size = nL) (hlink : (Cond.methodLink own idx ⟨"java/lang/Object", "getClass", "()Ljava/lang/Class;"⟩).before args s = true)
    (hsel : (Cond.selects "[Ljava/lang/Object;" ⟨"java/lang/Object", "getClass", "()Ljava/lang/Class;"⟩ ⟨"java/lang/Object", "getClass", "()Ljava/lang/Class;"⟩).before args s = true) (hinst : (Cond.instanceMethod ⟨"java/lang/Object", "getClass", "()Ljava/lang/Class;"⟩).before args s = true) (hnat : (Cond.native ⟨"java/lang/Object", "getClass", "()Ljava/lang/Class;"⟩).before args s = true)
    (hframes : 1 ≤ R.frames) (hlocals : (rest.map fun v => v.category).sum + 14 ≤ R.locals) (hdg : decode cc pc = .ok (.invokevirtual idx, 3))
    (kk : W p l e R s m args below meth c H locs cells slots Q (F0 m (pc + 3) ls (va_rf (some G.2.2.2.1) :: rest))) : W p l e R s m args below meth c H locs cells slots Q (F0 m pc ls (va_rf r :: rest)) := by
  unfold jm_gc at hv
  split at hv
  · cases hv
  · next q hq =>
    obtain ⟨rfl, h2⟩ := jm_aq_ok hq
    have hX := C.2.2.2.2.2.2.2
    have hc := (hJ.aq (by decide) h2).2
    exact va_getC C.1 C.2.1 (by rw [C.2.2.1]; exact hml.symm) C.2.2.2.1 hlink (va_Dc.use hX.2.2.2.2.2.2.1.2) hsel hinst hnat hX.2.2.2.2.2.2.1.1 ⟨_, hc, rfl, va_nmO (hX.1.2 5 _ rfl).2 rfl⟩ hframes hlocals hdg kk
theorem jw_ldcM (C : jm_C G cc nL own Ts rt p s m args meth c) {idx : Nat} (hlink : (Cond.classLink own idx "[Ljava/lang/Object;").before args s = true) (hdg : decode cc pc = .ok (.ldc idx, 2))
    (kk : W p l e R s m args below meth c H locs cells slots Q (F0 m (pc + 2) ls (va_rf (some G.2.2.2.1) :: rest))) : W p l e R s m args below meth c H locs cells slots Q (F0 m pc ls rest) :=
  va_ldcM C.1 C.2.1 C.2.2.2.1 hlink C.2.2.2.2.2.2.2.2.2.2.2.2.2.1.1 hdg kk
theorem jw_t0 (C : jm_C G cc nL own Ts rt p s m args meth c) (hJ : jm_J G S H) (hS : va_S (jm_A G) s.heap H locs) {idx : Nat} {r : Option Nat} (hv : jm_t0 S = some r) (hlink : (Cond.fieldLink own idx "java/util/ArrayList" "DEFAULTCAPACITY_EMPTY_ELEMENTDATA" "[Ljava/lang/Object;").before args s = true) (hdg : decode cc pc = .ok (.getstatic idx, 3))
    (kk : W p l e R s m args below meth c H locs cells slots Q (F0 m (pc + 3) ls (va_rf r :: rest))) : W p l e R s m args below meth c H locs cells slots Q (F0 m pc ls rest) := by
  cases hv
  rw [hJ.2.2] at kk
  exact va_gets C.1 C.2.1 C.2.2.2.2.2.2.2.2.1 hS C.2.2.2.1 hlink (fun _ h => h) hdg kk
/-! calls and returns -/
theorem jm_blind {av : List Value} : FrameBlind (jm_Pc G S av) := fun _ _ _ _ h => ⟨h.1, h.2.1, h.2.2.same rfl rfl⟩
theorem jm_w8 : ∀ (st : List Value), st.length ≤ 4 → (st.map fun v => v.category).sum ≤ 8 := by
  have h : ∀ (st : List Value), (st.map fun v => v.category).sum ≤ 2 * st.length := by
    intro st
    induction st with
    | nil => exact Nat.le_refl _
    | cons v st ih =>
      have := lv_cat v
      simp only [List.map_cons, List.sum_cons, List.length_cons]
      omega
  intro st hs
  have := h st
  omega
theorem jw_run {v : Option Value} {S1 : jm_S} {mc ms : Nat} {st0 : List Value} {a : Array Value} (hr : va_Run p l e R s m args below meth c H locs cells slots mc ms (F0 m pc ls st0) rest (jm_Q G v S1 a) (jm_A G)) (hS : va_S (jm_A G) s.heap H locs)
    (kk : ∀ (H1 : Heap) (locs1 : List Loc), jm_J G S1 H1 → va_S (jm_A G) s.heap H1 locs1 → W p l e R s m args below meth c H1 locs1 (cells + mc) (slots + ms) Q (F0 m (pc + 3) ls (v.toList ++ rest))) : W p l e R s m args below meth c H locs cells slots Q (F0 m pc ls st0) := by
  intro T hT X
  obtain ⟨v', st₀, t, T', L, h0, X', hL, e1, e2, ⟨hv, hj, hz, hk⟩, st⟩ := hr T hT X
  cases hv
  rw [h0] at hz hk
  obtain ⟨t2, a1, b1⟩ := kk T'.heap (locs ++ L) (by rw [e1]; exact hj)
    ⟨Nat.le_trans hS.1 (by rw [e1]; exact hz), fun q h1 h2 => by rw [e1, hk q (Nat.lt_of_lt_of_le h1 hS.1) h2]; exact hS.2.1 q h1 h2, fun q hq => by
      rcases List.mem_append.mp hq with h | h
      · exact hS.2.2 q h
      · exact hL q h⟩ T' rfl X'
  exact ⟨t2, st t2 a1, b1⟩
theorem jw_cV (C : jm_C G cc nL own Ts rt p s m args meth c) (hJ : jm_J G S H) (hS : va_S (jm_A G) s.heap H locs) {r : Option Nat} {a ci idx n maxL mc ms : Nat} {q : vw_C} {y : MethodName} {ws : List Cond} {rm : Room} {bytes : ByteArray} {rt1 : Option FieldType} {As st0 : List Value} {v : Option Value} {S1 : jm_S} (ho : jm_o r ci S = some a) (hc : vwCl[ci]? = some q) (hM : Met l y ws rm (jm_Pc G S (.ref a :: As)) (jm_Q G v S1) mc ms (jm_A G)) (cw : CallW R s args own q.1 idx y bytes maxL rt1 ws rm mc ms n) (hn : As.length = n) (hsz : ls.size = nL) (hst : st0 = As.reverse ++ va_rf r :: rest) (hw : rest.length ≤ 4) (hdg : decode cc pc = .ok (.invokevirtual idx, 3)) (hroom : cells + mc ≤ R.cells ∧ slots + ms ≤ R.slots)
    (kk : ∀ (H1 : Heap) (locs1 : List Loc), jm_J G S1 H1 → va_S (jm_A G) s.heap H1 locs1 → W p l e R s m args below meth c H1 locs1 (cells + mc) (slots + ms) Q (F0 m (pc + 3) ls (v.toList ++ rest))) : W p l e R s m args below meth c H locs cells slots Q (F0 m pc ls st0) := by
  unfold jm_o at ho
  split at ho
  · cases ho
  · next w hw1 =>
    cases ho
    obtain ⟨rfl, h2⟩ := jm_ob_ok hw1
    subst hst
    exact jw_run (va_runV (As := As) (rest := rest) ⟨C.1, C.2.1, C.2.2.1, C.2.2.2.1, C.2.2.2.2.1⟩ hM cw ⟨jm_blind, jm_recv C.2.2.2.2.2.2.2 hJ h2 hc, fun U hU hW => ⟨rfl, by rw [hU]; exact hJ, C.2.2.2.2.2.2.2.go hS hU hW⟩⟩ rfl hn hsz rfl (lv_room (jm_w8 _ hw)) hdg hroom) hS kk
theorem jw_cS (C : jm_C G cc nL own Ts rt p s m args meth c) (hJ : jm_J G S H) (hS : va_S (jm_A G) s.heap H locs) {idx n maxL mc ms : Nat} {y : MethodName} {ws : List Cond} {rm : Room} {bytes : ByteArray} {rt1 : Option FieldType} {As st0 : List Value} {v : Option Value} {S1 : jm_S} (hM : Met l y ws rm (jm_Pc G S As) (jm_Q G v S1) mc ms (jm_A G)) (cw : CallB R s args own idx y bytes maxL rt1 ws rm mc ms n ∧ (Cond.static y).before args s = true) (hn : As.length = n) (hsz : ls.size = nL) (hst : st0 = As.reverse ++ rest) (hw : rest.length ≤ 4) (hdg : decode cc pc = .ok (.invokestatic idx, 3)) (hroom : cells + mc ≤ R.cells ∧ slots + ms ≤ R.slots)
    (kk : ∀ (H1 : Heap) (locs1 : List Loc), jm_J G S1 H1 → va_S (jm_A G) s.heap H1 locs1 → W p l e R s m args below meth c H1 locs1 (cells + mc) (slots + ms) Q (F0 m (pc + 3) ls (v.toList ++ rest))) : W p l e R s m args below meth c H locs cells slots Q (F0 m pc ls st0) := by
  subst hst
  exact jw_run (va_runS (As := As) (rest := rest) ⟨C.1, C.2.1, C.2.2.1, C.2.2.2.1, C.2.2.2.2.1⟩ hM cw ⟨jm_blind, fun U hU hW => ⟨rfl, by rw [hU]; exact hJ, C.2.2.2.2.2.2.2.go hS hU hW⟩⟩ rfl hn hsz rfl (lv_room (jm_w8 _ hw)) hdg hroom) hS kk
theorem jw_cSN (C : jm_C G cc nL own Ts rt p s m args meth c) (hJ : jm_J G S H) (hS : va_S (jm_A G) s.heap H locs) {idx n maxL mc ms : Nat} {host : String} {y : MethodName} {ws : List Cond} {rm : Room} {bytes : ByteArray} {rt1 : Option FieldType} {As st0 : List Value} {v : Option Value} {S1 : jm_S} (hM : Met l y ws rm (jm_Pc G S As) (jm_Q G v S1) mc ms (jm_A G)) (cw : va_CN R s args own idx y host bytes maxL rt1 ws rm mc ms n) (hstat : (Cond.static y).before args s = true) (hn : As.length = n) (hsz : ls.size = nL) (hst : st0 = As.reverse ++ rest) (hw : rest.length ≤ 4) (hdg : decode cc pc = .ok (.invokestatic idx, 3)) (hroom : cells + mc ≤ R.cells ∧ slots + ms ≤ R.slots)
    (kk : ∀ (H1 : Heap) (locs1 : List Loc), jm_J G S1 H1 → va_S (jm_A G) s.heap H1 locs1 → W p l e R s m args below meth c H1 locs1 (cells + mc) (slots + ms) Q (F0 m (pc + 3) ls (v.toList ++ rest))) : W p l e R s m args below meth c H locs cells slots Q (F0 m pc ls st0) := by
  subst hst
  exact jw_run (va_runSN (As := As) (rest := rest) ⟨C.1, C.2.1, C.2.2.1, C.2.2.2.1, C.2.2.2.2.1⟩ hM ⟨cw, hstat, trivial⟩ ⟨jm_blind, fun U hU hW => ⟨rfl, by rw [hU]; exact hJ, C.2.2.2.2.2.2.2.go hS hU hW⟩⟩ rfl hn hsz rfl (lv_room (jm_w8 _ hw)) hdg hroom) hS kk
theorem jw_cI (C : jm_C G cc nL own Ts rt p s m args meth c) (hJ : jm_J G S H) (hS : va_S (jm_A G) s.heap H locs) {a idx n maxL mc ms : Nat} {y : MethodName} {ws : List Cond} {rm : Room} {bytes : ByteArray} {As st0 : List Value} {S1 : jm_S} (hM : Met l y ws rm (jm_Pc G S (.ref a :: As)) (jm_Q G none S1) mc ms (jm_A G)) (cw : CallB R s args own idx y bytes maxL none ws rm mc ms n ∧ y.name = "<init>" ∧ (Cond.instanceMethod y).before args s = true) (hn : As.length = n) (hsz : ls.size = nL) (hst : st0 = As.reverse ++ va_rf (some a) :: rest) (hw : rest.length ≤ 4) (hdg : decode cc pc = .ok (.invokespecial idx, 3)) (hroom : cells + mc ≤ R.cells ∧ slots + ms ≤ R.slots)
    (kk : ∀ (H1 : Heap) (locs1 : List Loc), jm_J G S1 H1 → va_S (jm_A G) s.heap H1 locs1 → W p l e R s m args below meth c H1 locs1 (cells + mc) (slots + ms) Q (F0 m (pc + 3) ls rest)) : W p l e R s m args below meth c H locs cells slots Q (F0 m pc ls st0) := by
  subst hst
  exact jw_run (v := none) (va_runI (As := As) (rest := rest) ⟨C.1, C.2.1, C.2.2.1, C.2.2.2.1, C.2.2.2.2.1⟩ hM cw ⟨jm_blind, fun U hU hW => ⟨rfl, by rw [hU]; exact hJ, C.2.2.2.2.2.2.2.go hS hU hW⟩⟩ rfl hn hsz rfl (lv_room (jm_w8 _ hw)) hdg hroom) hS kk
theorem jw_cIN (C : jm_C G cc nL own Ts rt p s m args meth c) (hJ : jm_J G S H) (hS : va_S (jm_A G) s.heap H locs) {a idx n maxL mc ms : Nat} {host : String} {y : MethodName} {ws : List Cond} {rm : Room} {bytes : ByteArray} {As st0 : List Value} {S1 : jm_S} (hM : Met l y ws rm (jm_Pc G S (.ref a :: As)) (jm_Q G none S1) mc ms (jm_A G)) (cw : va_CN R s args own idx y host bytes maxL none ws rm mc ms n) (hnm : y.name = "<init>") (hin : (Cond.instanceMethod y).before args s = true) (hn : As.length = n) (hsz : ls.size = nL) (hst : st0 = As.reverse ++ va_rf (some a) :: rest) (hw : rest.length ≤ 4) (hdg : decode cc pc = .ok (.invokespecial idx, 3)) (hroom : cells + mc ≤ R.cells ∧ slots + ms ≤ R.slots)
    (kk : ∀ (H1 : Heap) (locs1 : List Loc), jm_J G S1 H1 → va_S (jm_A G) s.heap H1 locs1 → W p l e R s m args below meth c H1 locs1 (cells + mc) (slots + ms) Q (F0 m (pc + 3) ls rest)) : W p l e R s m args below meth c H locs cells slots Q (F0 m pc ls st0) := by
  subst hst
  exact jw_run (v := none) (va_runIN (As := As) (rest := rest) ⟨C.1, C.2.1, C.2.2.1, C.2.2.2.1, C.2.2.2.2.1⟩ hM ⟨cw, hnm, hin⟩ ⟨jm_blind, fun U hU hW => ⟨rfl, by rw [hU]; exact hJ, C.2.2.2.2.2.2.2.go hS hU hW⟩⟩ rfl hn hsz rfl (lv_room (jm_w8 _ hw)) hdg hroom) hS kk
def jm_nn (r : Option Nat) (_ : jm_S) : Option Unit := match r with
  | none => none
  | some _ => some ()
theorem jw_objInit (C : jm_C G cc nL own Ts rt p s m args meth c) {r : Option Nat} {u : Unit} {idx : Nat} (hr : jm_nn r S = some u) (hsz : ls.size = nL) (hlink : (Cond.methodLink own idx Lib.objectInit).before args s = true) (hinst : (Cond.instanceMethod Lib.objectInit).before args s = true) (hcode : (Cond.code Lib.objectInit ⟨#[0xb1]⟩ 1 none).before args s = true) (hdg : decode cc pc = .ok (.invokespecial idx, 3)) (hframes : 1 ≤ R.frames) (hlocals : 20 ≤ R.locals) (hw : rest.length ≤ 4)
    (kk : W p l e R s m args below meth c H locs cells slots Q (F0 m (pc + 3) ls rest)) : W p l e R s m args below meth c H locs cells slots Q (F0 m pc ls (va_rf r :: rest)) := by
  cases r with
  | none => cases hr
  | some a =>
    have := jm_w8 rest hw
    exact W.objInit C.1 C.2.1 C.2.2.2.1 hlink hinst hcode rfl (by rw [C.2.2.1]; exact hsz) rfl hdg hframes (by show 2 * 0 + _ + 12 ≤ _; omega) kk
theorem jw_ri (C : jm_C G cc nL own Ts (some .int) p s m args meth c) (hJ : jm_J G S H) (hS : va_S (jm_A G) s.heap H locs) {v : Int32} {mc ms : Nat} (h1 : cells ≤ mc) (h2 : slots ≤ ms) (hdg : decode cc pc = .ok (.ireturn, 1)) : W p l e R s m args below meth c H locs cells slots (MQ below (jm_Q G (some (.int v)) S) args s mc ms (jm_A G)) (F0 m pc ls [.int v]) :=
  W.widen h1 h2 (W.iret C.1 C.2.1 C.2.2.2.2.2.1 (fun t ht _ => ⟨rfl, by rw [ht]; exact hJ, hS.F ht⟩) hS.2.2 hdg C.2.2.2.2.2.2.1)
theorem jw_rz (C : jm_C G cc nL own Ts (some .boolean) p s m args meth c) (hJ : jm_J G S H) (hS : va_S (jm_A G) s.heap H locs) {v : Int32} {u : Unit} (hz : jm_z v S = some u) {mc ms : Nat} (h1 : cells ≤ mc) (h2 : slots ≤ ms) (hdg : decode cc pc = .ok (.ireturn, 1)) : W p l e R s m args below meth c H locs cells slots (MQ below (jm_Q G (some (.int v)) S) args s mc ms (jm_A G)) (F0 m pc ls [.int v]) :=
  W.widen h1 h2 (W.zret C.1 C.2.1 C.2.2.2.2.2.1 (jm_nz hz).1 (fun t ht _ => ⟨rfl, by rw [ht]; exact hJ, hS.F ht⟩) hS.2.2 hdg C.2.2.2.2.2.2.1)
theorem jw_ra {rt1 : FieldType} (C : jm_C G cc nL own Ts (some rt1) p s m args meth c) (hrt : (∃ n, rt1 = .object n) ∨ ∃ t, rt1 = .array t) (hJ : jm_J G S H) (hS : va_S (jm_A G) s.heap H locs) {r : Option Nat} {mc ms : Nat} (h1 : cells ≤ mc) (h2 : slots ≤ ms) (hdg : decode cc pc = .ok (.areturn, 1)) : W p l e R s m args below meth c H locs cells slots (MQ below (jm_Q G (some (va_rf r)) S) args s mc ms (jm_A G)) (F0 m pc ls [va_rf r]) :=
  W.widen h1 h2 (W.aret C.1 C.2.1 C.2.2.2.2.2.1 hrt (va_rf_or r) (fun t ht _ => ⟨rfl, by rw [ht]; exact hJ, hS.F ht⟩) hS.2.2 hdg C.2.2.2.2.2.2.1)
theorem jw_rv (C : jm_C G cc nL own Ts none p s m args meth c) (hJ : jm_J G S H) (hS : va_S (jm_A G) s.heap H locs) {mc ms : Nat} (h1 : cells ≤ mc) (h2 : slots ≤ ms) (hdg : decode cc pc = .ok (.return_, 1)) : W p l e R s m args below meth c H locs cells slots (MQ below (jm_Q G none S) args s mc ms (jm_A G)) (F0 m pc ls []) :=
  W.widen h1 h2 (W.vret C.1 C.2.1 C.2.2.2.2.2.1 (fun t ht _ => ⟨rfl, by rw [ht]; exact hJ, hS.F ht⟩) hS.2.2 hdg C.2.2.2.2.2.2.1)
end JW
/-! a program's memory only grows -/
def jm_Mo {α : Type} (x : jm_P α) : Prop := ∀ S v S1, x S = some (v, S1) → S.2.1 ≤ S1.2.1 ∧ S.2.2.1 ≤ S1.2.2.1
theorem jm_Mo_ret {α : Type} (v : α) : jm_Mo (jm_ret v) := fun S w S1 h => by cases h; exact ⟨Nat.le_refl _, Nat.le_refl _⟩
theorem jm_Mo_no {α : Type} : jm_Mo (jm_no : jm_P α) := fun S w S1 h => by cases h
theorem jm_Mo_rd {α β : Type} {g : jm_S → Option α} {f : α → jm_P β} (h : ∀ v, jm_Mo (f v)) : jm_Mo (jm_rd g f) := fun S w S1 hh => by
  obtain ⟨v, -, h2⟩ := jm_rd_ok hh
  exact h v S w S1 h2
theorem jm_Mo_wr {β : Type} {g : jm_S → Option jm_S} {f : jm_P β} (hg : ∀ S S1, g S = some S1 → S1.2 = S.2) (h : jm_Mo f) : jm_Mo (jm_wr g f) := fun S w S1 hh => by
  obtain ⟨S2, h1, h2⟩ := jm_wr_ok hh
  have h3 := h S2 w S1 h2
  rw [hg S S2 h1] at h3
  exact h3
theorem jm_Mo_bd {α β : Type} {x : jm_P α} {f : α → jm_P β} (hx : jm_Mo x) (h : ∀ v, jm_Mo (f v)) : jm_Mo (jm_bd x f) := fun S w S1 hh => by
  obtain ⟨v, S2, h1, h2⟩ := jm_bd_ok hh
  have h3 := hx S v S2 h1
  have h4 := h v S2 w S1 h2
  exact ⟨Nat.le_trans h3.1 h4.1, Nat.le_trans h3.2 h4.2⟩
theorem jm_Mo_if {α : Type} {c : Prop} [Decidable c] {x y : jm_P α} (hx : jm_Mo x) (hy : jm_Mo y) : jm_Mo (if c then x else y) := by
  split
  · exact hx
  · exact hy
theorem jm_p_st {r : Option Nat} {ci k : Nat} {v : jm_V} : ∀ S S1, jm_p r ci k v S = some S1 → S1.2 = S.2 := fun S S1 h => by
  obtain ⟨a, fs, -, -, -, rfl⟩ := jm_p_ok h
  rfl
theorem jm_si_st {r : Option Nat} {t : Nat} {i x : Int32} : ∀ S S1, jm_si r t i x S = some S1 → S1.2 = S.2 := fun S S1 h => by
  obtain ⟨a, n, f, -, -, -, rfl⟩ := jm_si_ok h
  rfl
theorem jm_sq_st {r x : Option Nat} {t : Nat} {i : Int32} : ∀ S S1, jm_sq r t i x S = some S1 → S1.2 = S.2 := fun S S1 h => by
  obtain ⟨a, n, f, -, -, -, -, rfl⟩ := jm_sq_ok h
  rfl
theorem jm_cp_st {r0 r1 : Option Nat} {sp dp n : Int32} : ∀ S S1, jm_cp r0 sp r1 dp n S = some S1 → S1.2 = S.2 := fun S S1 h => by
  obtain ⟨a0, n0, a1, n1, f, g, -, -, -, -, -, -, -, -, -, -, rfl⟩ := jm_cp_ok h
  rfl
theorem jm_Mo_new {ci : Nat} {fs : List jm_V} : jm_Mo (jm_new ci fs) := fun S w S1 h => by
  cases h
  exact ⟨Nat.le_succ _, Nat.le_add_right _ _⟩
theorem jm_Mo_na {t : Nat} {n : Int32} : jm_Mo (jm_na t n) := fun S w S1 h => by
  obtain ⟨-, -, -, rfl⟩ := jm_na_ok h
  exact ⟨Nat.le_succ _, Nat.le_add_right _ _⟩
theorem jm_Mo_nq {t : Nat} {n : Int32} : jm_Mo (jm_nq t n) := fun S w S1 h => by
  obtain ⟨-, -, -, rfl⟩ := jm_nq_ok h
  exact ⟨Nat.le_succ _, Nat.le_add_right _ _⟩
/-! small words of the walks -/
theorem jm_w {G : jm_G} {cc : ByteArray} {nL : Nat} {own : String} {Ts : List Cond} {rt : Option FieldType} {p : Program} {s : State} {m : MethodId} {args : Array Value} {meth : Method} {c : Code} (C : jm_C G cc nL own Ts rt p s m args meth c) (i : Nat) {w : Cond} (h : Ts[i]? = some w) : w.before args s = true := C.2.2.2.2.1 w (List.mem_of_getElem? h)
theorem jm_ift {α : Type} {c : Prop} [Decidable c] {x y : jm_P α} {S : jm_S} {o : Option (α × jm_S)} (h : (if c then x else y) S = o) (hc : c) : x S = o := by rw [if_pos hc] at h; exact h
theorem jm_iff {α : Type} {c : Prop} [Decidable c] {x y : jm_P α} {S : jm_S} {o : Option (α × jm_S)} (h : (if c then x else y) S = o) (hc : ¬ c) : y S = o := by rw [if_neg hc] at h; exact h
theorem jm_ret_ok {α : Type} {v w : α} {S S1 : jm_S} (h : jm_ret v S = some (w, S1)) : v = w ∧ S = S1 := by
  cases h
  exact ⟨rfl, rfl⟩
theorem jm_new_st {S S1 : jm_S} {ci q : Nat} {fs : List jm_V} (h : jm_new ci fs S = some (q, S1)) : S1.2.1 = S.2.1 + 1 ∧ S1.2.2.1 = S.2.2.1 + fs.length := by
  cases h
  exact ⟨rfl, rfl⟩
theorem jm_na_st {S S1 : jm_S} {t : Nat} {n : Int32} {q : Option Nat} (h : jm_na t n S = some (q, S1)) : S1.2.1 = S.2.1 + 1 ∧ S1.2.2.1 = S.2.2.1 + n.toNatClampNeg := by
  obtain ⟨-, -, -, rfl⟩ := jm_na_ok h
  exact ⟨rfl, rfl⟩
theorem jm_nq_st {S S1 : jm_S} {t : Nat} {n : Int32} {q : Option Nat} (h : jm_nq t n S = some (q, S1)) : S1.2.1 = S.2.1 + 1 ∧ S1.2.2.1 = S.2.2.1 + n.toNatClampNeg := by
  obtain ⟨-, -, -, rfl⟩ := jm_nq_ok h
  exact ⟨rfl, rfl⟩
theorem jm_mo {α : Type} {x : jm_P α} {S S1 : jm_S} {v : α} (hf : x S = some (v, S1)) (h : jm_Mo x) : S.2.1 ≤ S1.2.1 ∧ S.2.2.1 ≤ S1.2.2.1 := h S v S1 hf
theorem jm_w8r (st : List Value) (h : st.length ≤ 4) {n : Nat} (hn : 21 ≤ n) : (st.map fun v => v.category).sum + 13 ≤ n := by
  have := jm_w8 st h
  omega
theorem jm_w8t (st : List Value) (h : st.length ≤ 4) {n : Nat} (hn : 22 ≤ n) : (st.map fun v => v.category).sum + 14 ≤ n := by
  have := jm_w8 st h
  omega
theorem jm_w8s (st : List Value) (h : st.length ≤ 4) {n k : Nat} (hn : 8 + k ≤ n) : (st.map fun v => v.category).sum + k ≤ n := by
  have := jm_w8 st h
  omega
theorem jm_out3 {x : Int32} (h0 : ¬ x = 0) (h1 : ¬ x = 1) (h2 : ¬ x = 2) : x.toInt < 0 ∨ 2 < x.toInt := by
  have g0 : ¬ x.toInt = 0 := lv_neT h0 rfl
  have g1 : ¬ x.toInt = 1 := lv_neT h1 rfl
  have g2 : ¬ x.toInt = 2 := lv_neT h2 rfl
  omega
def jm_inL (i : Int32) (L : Nat) (_ : jm_S) : Option Unit := if i < 0 ∨ L ≤ i.toNatClampNeg then none else some ()
theorem jm_inL_ok {i : Int32} {L : Nat} {S : jm_S} {u : Unit} (h : jm_inL i L S = some u) : vp_in i L := by
  unfold jm_inL at h
  split at h
  · cases h
  · next hn => exact hn
