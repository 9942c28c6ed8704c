/-! what a frame of the small machine means of the machine itself -/
def jm_ad (b0 sc k : Nat) : Nat := if k = 1 then sc else b0 + (k - 2)
def jm_v (b0 sc : Nat) : Value → Value
  | .ref k => if k = 0 then .null else .ref (jm_ad b0 sc k)
  | v => v
def jm_rv (b0 sc k : Nat) : Option Nat := if k = 0 then none else some (jm_ad b0 sc k)
theorem jm_v_i (b0 sc : Nat) (x : Int32) : jm_v b0 sc (.int x) = .int x := rfl
theorem jm_v_l (b0 sc : Nat) (x : Int64) : jm_v b0 sc (.long x) = .long x := rfl
theorem jm_v_0 (b0 sc : Nat) : jm_v b0 sc (.ref 0) = .null := rfl
theorem jm_v_r {b0 sc k : Nat} (h : k ≠ 0) : jm_v b0 sc (.ref k) = .ref (jm_ad b0 sc k) := by
  show (if k = 0 then Value.null else .ref (jm_ad b0 sc k)) = _
  rw [if_neg h]
theorem jm_v_rf (b0 sc k : Nat) : va_rf (jm_rv b0 sc k) = jm_v b0 sc (.ref k) := by
  by_cases h : k = 0
  · subst h; rfl
  · rw [jm_v_r h]; simp [jm_rv, h, va_rf]
theorem jm_v_cat (b0 sc : Nat) (v : Value) : (jm_v b0 sc v).category = v.category := by
  cases v with
  | ref k =>
    by_cases h : k = 0
    · subst h; rfl
    · rw [jm_v_r h]; rfl
  | _ => rfl
theorem jm_ad_2 {b0 sc r : Nat} (h : 2 ≤ r) : jm_ad b0 sc r = b0 + (r - 2) := by
  unfold jm_ad; rw [if_neg (by omega)]
def jm_fv (b0 sc : Nat) (σ : jm_S) (k r : Nat) : List Value := (List.range (jt_ft k).length).map (fun j => if (jt_ft k).getD j 0 = 2 then jm_v b0 sc (.ref (σ.2.2.1 r j)) else .int (σ.2.2.2.1 r j))
def jm_e (b0 sc : Nat) (dA : Nat → ClassId) (σ : jm_S) (r : Nat) : va_E :=
  if (σ.2.1 r).1 < 10 then .inr ((σ.2.1 r).1, jm_fv b0 sc σ (σ.2.1 r).1 r)
  else if (σ.2.1 r).1 < 12 then .inl (dA (σ.2.1 r).1, (σ.2.1 r).2, .inl (σ.2.2.2.1 r))
  else if (σ.2.1 r).1 = 12 then .inl (dA (σ.2.1 r).1, (σ.2.1 r).2, .inr (.inl (σ.2.2.2.2.1 r)))
  else .inl (dA (σ.2.1 r).1, (σ.2.1 r).2, .inr (.inr (.inr (.inr (fun j => jm_rv b0 sc (σ.2.2.1 r j))))))
def jm_ws (b0 sc : Nat) (dA : Nat → ClassId) (σ : jm_S) : va_W := (List.range σ.1).map (fun k => (b0 + k, jm_e b0 sc dA σ (k + 2)))
theorem jm_ws_k {b0 sc : Nat} {dA : Nat → ClassId} {σ : jm_S} {k : Nat} (h : k < σ.1) : (jm_ws b0 sc dA σ)[k]? = some (b0 + k, jm_e b0 sc dA σ (k + 2)) := by
  unfold jm_ws
  rw [List.getElem?_map, List.getElem?_range h]
  rfl
theorem jm_ws_at {b0 sc : Nat} {dA : Nat → ClassId} {σ : jm_S} {r : Nat} (h2 : 2 ≤ r) (h : r < σ.1 + 2) : (jm_ws b0 sc dA σ)[r - 2]? = some (jm_ad b0 sc r, jm_e b0 sc dA σ r) := by
  rw [jm_ws_k (by omega), jm_ad_2 h2, show r - 2 + 2 = r by omega]
theorem jm_ws_len (b0 sc : Nat) (dA : Nat → ClassId) (σ : jm_S) : (jm_ws b0 sc dA σ).length = σ.1 := by simp [jm_ws]
theorem jm_ws_of {b0 sc : Nat} {dA : Nat → ClassId} {σ : jm_S} {k : Nat} {q : Nat × va_E} (h : (jm_ws b0 sc dA σ)[k]? = some q) : k < σ.1 ∧ q = (b0 + k, jm_e b0 sc dA σ (k + 2)) := by
  have hl := (List.getElem?_eq_some_iff.mp h).1
  rw [jm_ws_len] at hl
  rw [jm_ws_k hl] at h
  exact ⟨hl, (Option.some.inj h).symm⟩
theorem jm_D (b0 sc : Nat) (dA : Nat → ClassId) (σ : jm_S) : va_D (fun q => b0 ≤ q) (jm_ws b0 sc dA σ) := by
  refine ⟨fun i j p q hi hj h => ?_, fun k q hk => ?_⟩
  · obtain ⟨-, rfl⟩ := jm_ws_of hi
    obtain ⟨-, rfl⟩ := jm_ws_of hj
    have h' : b0 + i = b0 + j := h
    omega
  · obtain ⟨-, rfl⟩ := jm_ws_of hk
    exact Nat.le_add_right _ _
theorem jm_ws_set {b0 sc : Nat} {dA : Nat → ClassId} {σ σ' : jm_S} {r : Nat} {x : va_E} (h2 : 2 ≤ r) (h : r < σ.1 + 2) (hn : σ'.1 = σ.1) (hx : x = jm_e b0 sc dA σ' r) (ho : ∀ k, k ≠ r → jm_e b0 sc dA σ' k = jm_e b0 sc dA σ k) : (jm_ws b0 sc dA σ).set (r - 2) (jm_ad b0 sc r, x) = jm_ws b0 sc dA σ' := by
  subst hx
  refine List.ext_getElem? fun i => ?_
  by_cases hi : i < σ.1
  · rw [jm_ws_k (σ := σ') (by rw [hn]; exact hi)]
    by_cases hir : i = r - 2
    · subst hir
      rw [List.getElem?_set_self (by rw [jm_ws_len]; exact hi), jm_ad_2 h2, show r - 2 + 2 = r by omega]
    · rw [List.getElem?_set_ne (Ne.symm hir), jm_ws_k hi, ho (i + 2) (by omega)]
  · rw [List.getElem?_eq_none (by rw [List.length_set, jm_ws_len]; omega), List.getElem?_eq_none (by rw [jm_ws_len]; omega)]
theorem jm_ws_push {b0 sc : Nat} {dA : Nat → ClassId} {σ σ' : jm_S} {x : Nat × va_E} (hn : σ'.1 = σ.1 + 1) (hx : x = (b0 + σ.1, jm_e b0 sc dA σ' (σ.1 + 2))) (ho : ∀ k, k < σ.1 + 2 → jm_e b0 sc dA σ' k = jm_e b0 sc dA σ k) : jm_ws b0 sc dA σ ++ [x] = jm_ws b0 sc dA σ' := by
  subst hx
  refine List.ext_getElem? fun i => ?_
  by_cases hi : i < σ.1
  · rw [List.getElem?_append_left (by rw [jm_ws_len]; exact hi), jm_ws_k hi, jm_ws_k (σ := σ') (by omega), ho (i + 2) (by omega)]
  · rw [List.getElem?_append_right (by rw [jm_ws_len]; omega), jm_ws_len]
    by_cases hi2 : i = σ.1
    · subst hi2
      rw [jm_ws_k (σ := σ') (by omega)]
      simp
    · rw [List.getElem?_eq_none (by simp; omega), List.getElem?_eq_none (by rw [jm_ws_len]; omega)]
theorem jm_up_ne {α : Type} {f : Nat → Nat → α} {r j k : Nat} {x : α} (h : k ≠ r) : jm_up f r j x k = f k := by
  funext i
  simp [jm_up, h]
theorem jm_up_in {α : Type} {f : Nat → Nat → α} {r j : Nat} {x : α} : jm_up f r j x r j = x := by simp [jm_up]
theorem jm_up_in_ne {α : Type} {f : Nat → Nat → α} {r j i : Nat} {x : α} (h : i ≠ j) : jm_up f r j x r i = f r i := by simp [jm_up, h]
/-- the locals -/
def jm_lv (b0 sc : Nat) (ls : Array Slot) (nL : Nat) (al : List (Option Value)) : Prop := ls.size = nL ∧ lv_wf ls ∧ al.length = nL ∧ ∀ (i : Nat) (v : Value), al.getD i none = some v → v.category = 1 ∧ ls[i]? = some (.val (jm_v b0 sc v))
def jm_ll (b0 sc nL : Nat) (al : List (Option Value)) : List (Nat × Value) := (List.range nL).filterMap (fun i => (al.getD i none).map (fun v => (i, jm_v b0 sc v)))
theorem jm_ll_mem {b0 sc nL : Nat} {al : List (Option Value)} {q : Nat × Value} : q ∈ jm_ll b0 sc nL al ↔ ∃ i v, i < nL ∧ al.getD i none = some v ∧ q = (i, jm_v b0 sc v) := by
  unfold jm_ll
  rw [List.mem_filterMap]
  constructor
  · rintro ⟨i, hi, h⟩
    cases ha : al.getD i none with
    | none => rw [ha] at h; cases h
    | some v => rw [ha] at h; exact ⟨i, v, List.mem_range.mp hi, ha, (Option.some.inj h).symm⟩
  · rintro ⟨i, v, hi, ha, rfl⟩
    exact ⟨i, List.mem_range.mpr hi, by rw [ha]; rfl⟩
theorem jm_lv_has {b0 sc nL : Nat} {ls : Array Slot} {al : List (Option Value)} (h : jm_lv b0 sc ls nL al) : lv_has ls nL (jm_ll b0 sc nL al) := by
  refine ⟨h.1, h.2.1, fun q hq => ?_⟩
  obtain ⟨i, v, -, ha, rfl⟩ := jm_ll_mem.mp hq
  exact (h.2.2.2 i v ha).2
theorem jm_lv_store {b0 sc nL i : Nat} {ls ls' : Array Slot} {al : List (Option Value)} {v : Value} (h : jm_lv b0 sc ls nL al) (hi : i < nL) (hc : v.category = 1) (h' : lv_has ls' nL ((i, jm_v b0 sc v) :: (jm_ll b0 sc nL al).filter (fun q => !(q.1 == i) && !(q.1 + 1 == i && q.2.category == 2)))) : jm_lv b0 sc ls' nL (al.set i (some v)) := by
  refine ⟨h'.1, h'.2.1, by rw [List.length_set]; exact h.2.2.1, fun j u hj => ?_⟩
  by_cases hji : j = i
  · subst hji
    have hu : v = u := by
      rw [List.getD_eq_getElem?_getD, List.getElem?_set_self (by rw [h.2.2.1]; exact hi)] at hj
      exact Option.some.inj hj
    subst hu
    exact ⟨hc, h'.2.2 (j, jm_v b0 sc v) List.mem_cons_self⟩
  · have ha : al.getD j none = some u := by
      rw [List.getD_eq_getElem?_getD, List.getElem?_set_ne (Ne.symm hji), ← List.getD_eq_getElem?_getD] at hj
      exact hj
    have hjn : j < nL := by
      rw [← h.2.2.1]
      rcases Nat.lt_or_ge j al.length with hl | hl
      · exact hl
      · rw [List.getD_eq_getElem?_getD, List.getElem?_eq_none hl] at ha
        cases ha
    refine ⟨(h.2.2.2 j u ha).1, h'.2.2 (j, jm_v b0 sc u) (List.mem_cons_of_mem _ (List.mem_filter.mpr ⟨jm_ll_mem.mpr ⟨j, u, hjn, ha, rfl⟩, ?_⟩))⟩
    have hcu := (h.2.2.2 j u ha).1
    simp [jm_v_cat, hcu, hji]
/-- the world of a heap of the small machine -/
def jm_wd (b0 sc L : Nat) (xs : Nat → Int32) (D : va_G) (dA : Nat → ClassId) (σ : jm_S) (H : Heap) : Prop := va_P D jt_cl (jm_ws b0 sc dA σ) H ∧ σ.2.1 1 = (10, L) ∧ ∀ j, j < L → σ.2.2.2.1 1 j = xs j
theorem jm_ts_mv {H0 : Heap} {U V : State} (hW : U.WarmedH V.vm) (h : ∀ w ∈ jt_ts, w.before #[] ({ U with heap := H0 } : State) = true) : ∀ w ∈ jt_ts, w.before #[] ({ V with heap := H0 } : State) = true := by
  intro w hw
  have h1 := h w hw
  have hW1 : ({ U with heap := H0 } : State).WarmedH V.vm := hW
  simp only [jt_ts, List.mem_cons, List.not_mem_nil, or_false] at hw
  have h2 : w.before #[] (({ U with heap := H0 } : State).setVm V.vm) = true := by
    rcases hw with rfl | rfl | rfl | rfl <;> exact Cond.holds_shifted (State.Shifted.of_warmed hW1) _ [] rfl h1
  rcases hw with rfl | rfl | rfl | rfl <;> exact h2
theorem jm_ts_1 {H0 : Heap} {U : State} {C n d : String} {a : Array Value} (hl : ∀ q, q < H0.size → U.heap[q]? = H0[q]?) (h : (Cond.isRef (.static C n d)).before #[] ({ U with heap := H0 } : State) = true) : (Cond.isRef (.static C n d)).before a U = true := by
  have hv : ∀ x, (Term.static C n d).eval #[] ({ U with heap := H0 } : State) none [] ({ U with heap := H0 } : State) = some x → (Term.static C n d).eval a U none [] U = some x := by
    intro x hx
    simp only [Term.eval, Option.bind_eq_bind, Option.bind_eq_some_iff] at hx ⊢
    obtain ⟨f, hf, aS, hk, cell, hc, hr⟩ := hx
    refine ⟨f, hf, aS, hk, cell, ?_, hr⟩
    have hlt := (Array.getElem?_eq_some_iff.mp hc).1
    rw [hl aS hlt]
    exact hc
  simp only [Cond.before, Cond.holds, Cond.value] at h ⊢
  cases hx : (Term.static C n d).eval #[] ({ U with heap := H0 } : State) none [] ({ U with heap := H0 } : State) with
  | none => rw [hx] at h; cases h
  | some x => rw [hx] at h; rw [hv x hx]; exact h
theorem jm_ts_2 {H0 : Heap} {U : State} {C n d : String} {a : Array Value} (hl : ∀ q, q < H0.size → U.heap[q]? = H0[q]?) (h : (Cond.laysStatic C n d).before #[] ({ U with heap := H0 } : State) = true) : (Cond.laysStatic C n d).before a U = true := by
  simp only [Cond.before, Cond.holds, Cond.value] at h ⊢
  cases hf : U.vm.findClass C with
  | none => rw [show ({ U with heap := H0 } : State).vm.findClass C = none from hf] at h; cases h
  | some c =>
    cases hff : U.fieldFound? C n d with
    | none => rw [show ({ U with heap := H0 } : State).vm.findClass C = some c from hf, show ({ U with heap := H0 } : State).fieldFound? C n d = none from hff] at h; cases h
    | some q =>
      obtain ⟨c', k, i, f⟩ := q
      rw [show ({ U with heap := H0 } : State).vm.findClass C = some c from hf, show ({ U with heap := H0 } : State).fieldFound? C n d = some (c', k, i, f) from hff] at h
      simp only at h ⊢
      cases hk : k.statics with
      | none => rw [hk] at h; cases h
      | some aS =>
        rw [hk] at h
        simp only [Option.bind_some] at h ⊢
        cases hc : H0[aS]? with
        | none => rw [show ({ U with heap := H0 } : State).heap[aS]? = none from hc] at h; cases h
        | some cell =>
          rw [show ({ U with heap := H0 } : State).heap[aS]? = some cell from hc] at h
          rw [hl aS (Array.getElem?_eq_some_iff.mp hc).1, hc]
          exact h
theorem jm_ts_at {H0 : Heap} {U : State} {a : Array Value} (hl : ∀ q, q < H0.size → U.heap[q]? = H0[q]?) (h : ∀ w ∈ jt_ts, w.before #[] ({ U with heap := H0 } : State) = true) : ∀ w ∈ jt_ts, w.before a U = true := by
  intro w hw
  have h1 := h w hw
  simp only [jt_ts, List.mem_cons, List.not_mem_nil, or_false] at hw
  rcases hw with rfl | rfl | rfl | rfl
  · exact jm_ts_1 hl h1
  · exact jm_ts_1 hl h1
  · exact jm_ts_2 hl h1
  · exact jm_ts_2 hl h1
def jm_T (b0 sc L : Nat) (xs : Nat → Int32) (H0 : Heap) (D : va_G) (dA : Nat → ClassId) (p : Program) (e : Env) (R : Room) (s : State) (m : MethodId) (args : Array Value) (meth : Method) (c : Code) (d mi : Nat) : Prop :=
  p.tables.exec = Jvm.exec ∧ c.code = jt_by mi ∧ c.maxLocals = jt_ml mi ∧ meth.sig.returnType = jt_rt mi ∧ meth.locks = false ∧ meth.name = (jt_nm mi).name ∧ s.vm.findClass (jt_nm mi).cls = some m.cls ∧
  (∀ w ∈ jt_tb, w.before args s = true) ∧ va_K D jt_cl (jt_ty dA) s ∧ R.frames = d ∧ 36 * d ≤ R.locals ∧ (e.platform.stackTraces = false ∧ (∀ w ∈ jt_ts, w.before #[] ({ s with heap := H0 } : State) = true) ∧ ∀ z ∈ jt_nc, va_Nc z.1 z.2 s) ∧
  c.exceptionTable.toList.map (fun h => (h.startPc, h.endPc, h.handlerPc, h.catchType)) = jt_hh mi ∧ va_X sc L xs s H0 ∧ sc < b0 ∧ H0.size = b0
def jm_oc (b0 sc : Nat) (s t : State) (out : Option Value ⊕ Nat) (o : Outcome) : Prop := match out with
  | .inl v => o = .returned (v.map (jm_v b0 sc))
  | .inr E => ∃ (a : Addr) (cell : Cell), o = .threw a ∧ t.heap[a]? = some cell ∧ s.vm.findClass (jt_xn E) = some cell.cls ∧ cell.vm = .none ∧ ∃ k : Class, s.vm.classes[cell.cls]? = some k
def jm_Q (b0 sc L : Nat) (xs : Nat → Int32) (H0 : Heap) (D : va_G) (dA : Nat → ClassId) (below : List Frame) (s : State) (out : Option Value ⊕ Nat) (σ1 : jm_S) (w1 : Bool) (c0 s0 : Nat) : State → Prop := fun t =>
  ∃ o, t.status = .running ∧ Ended t below o ∧ jm_oc b0 sc s t out o ∧ jm_wd b0 sc L xs D dA σ1 t.heap ∧ (∀ q, q < b0 → t.heap[q]? = H0[q]?) ∧ s.WarmedH t.vm ∧
    ∃ Ls, s.sameButNew ({ t with vm := s.vm } : State) Ls (jm_nc σ1 - c0) (jm_ns σ1 - s0) ∧ ∀ q ∈ Ls, b0 ≤ q.base ∧ w1 = true
def jm_PP (l : Launch) (b0 sc L : Nat) (xs : Nat → Int32) (H0 : Heap) (D : va_G) (dA : Nat → ClassId) (d mi pc : Nat) (al : List (Option Value)) (st : List Value) (w : Bool) (σ : jm_S) (out : Option Value ⊕ Nat) (σ1 : jm_S) (w1 : Bool) : Prop :=
  (jm_nc σ ≤ jm_nc σ1 ∧ jm_ns σ ≤ jm_ns σ1 ∧ (σ1.2.2.2.2.2.2 = 0 → σ.2.2.2.2.2.2 = 0) ∧ (w1 = false → w = false ∧ ∀ v, out = .inl v → jm_nc σ1 = jm_nc σ)) ∧
  ∀ (p : Program) (e : Env) (R : Room) (s : State) (m : MethodId) (args : Array Value) (below : List Frame) (meth : Method) (c : Code) (H : Heap) (locs : List Loc) (cells slots : Nat) (ls : Array Slot) (c0 s0 : Nat),
    jm_T b0 sc L xs H0 D dA p e R s m args meth c d mi → jm_lv b0 sc ls (jt_ml mi) al → jm_wd b0 sc L xs D dA σ H → va_S (fun q => b0 ≤ q) H0 H locs → (∀ q ∈ locs, w = true) → (w = false → cells = 0) →
    cells + c0 = jm_nc σ → slots + s0 = jm_ns σ → (σ.2.2.2.2.2.2 = 0 → s.heap.size ≤ b0 + c0) → jm_nc σ1 ≤ c0 + R.cells → jm_ns σ1 ≤ s0 + R.slots →
    W p l e R s m args below meth c H locs cells slots (jm_Q b0 sc L xs H0 D dA below s out σ1 w1 c0 s0) (F0 m pc ls (st.map (jm_v b0 sc)))
def jm_P (l : Launch) (b0 sc L : Nat) (xs : Nat → Int32) (H0 : Heap) (D : va_G) (dA : Nat → ClassId) (cf : jm_Cf) (r : jm_Rs) : Prop :=
  jm_PP l b0 sc L xs H0 D dA cf.1 cf.2.1 cf.2.2.1 cf.2.2.2.1 cf.2.2.2.2.1 cf.2.2.2.2.2.1 cf.2.2.2.2.2.2 r.1 r.2.1 r.2.2
section
variable {l : Launch} {b0 sc L : Nat} {xs : Nat → Int32} {H0 : Heap} {D : va_G} {dA : Nat → ClassId} {d mi pc pc' : Nat} {al al' : List (Option Value)} {st st' : List Value} {w w1 : Bool} {σ σ' σ1 : jm_S} {out : Option Value ⊕ Nat}
/-- a step that leaves the heap as it is -/
theorem jm_go (hP : jm_PP l b0 sc L xs H0 D dA d mi pc' al' st' w σ out σ1 w1)
    (hrow : ∀ (p : Program) (e : Env) (R : Room) (s : State) (m : MethodId) (args : Array Value) (below : List Frame) (meth : Method) (c : Code) (H : Heap) (locs : List Loc) (cells slots : Nat) (Q : State → Prop) (ls : Array Slot),
      jm_T b0 sc L xs H0 D dA p e R s m args meth c d mi → jm_lv b0 sc ls (jt_ml mi) al → jm_wd b0 sc L xs D dA σ H → va_S (fun q => b0 ≤ q) H0 H locs →
      (∀ ls', jm_lv b0 sc ls' (jt_ml mi) al' → W p l e R s m args below meth c H locs cells slots Q (F0 m pc' ls' (st'.map (jm_v b0 sc)))) → W p l e R s m args below meth c H locs cells slots Q (F0 m pc ls (st.map (jm_v b0 sc)))) :
    jm_PP l b0 sc L xs H0 D dA d mi pc al st w σ out σ1 w1 :=
  ⟨hP.1, fun p e R s m args below meth c H locs cells slots ls c0 s0 hT hlv hwd hS hw hw0 hc hs hz h1 h2 =>
    hrow p e R s m args below meth c H locs cells slots _ ls hT hlv hwd hS (fun ls' hlv' => hP.2 p e R s m args below meth c H locs cells slots ls' c0 s0 hT hlv' hwd hS hw hw0 hc hs hz h1 h2)⟩
/-- a step that writes into a cell -/
theorem jm_goW (hP : jm_PP l b0 sc L xs H0 D dA d mi pc' al st' true σ' out σ1 w1) (hn : jm_nc σ' = jm_nc σ) (hs : jm_ns σ' = jm_ns σ) (ht : σ'.2.2.2.2.2.2 = σ.2.2.2.2.2.2)
    (hrow : ∀ (p : Program) (e : Env) (R : Room) (s : State) (m : MethodId) (args : Array Value) (below : List Frame) (meth : Method) (c : Code) (H : Heap) (locs : List Loc) (cells slots : Nat) (Q : State → Prop) (ls : Array Slot),
      jm_T b0 sc L xs H0 D dA p e R s m args meth c d mi → jm_wd b0 sc L xs D dA σ H → va_S (fun q => b0 ≤ q) H0 H locs →
      (∀ (H1 : Heap) (locs1 : List Loc), jm_wd b0 sc L xs D dA σ' H1 → va_S (fun q => b0 ≤ q) H0 H1 locs1 → W p l e R s m args below meth c H1 locs1 cells slots Q (F0 m pc' ls (st'.map (jm_v b0 sc)))) → W p l e R s m args below meth c H locs cells slots Q (F0 m pc ls (st.map (jm_v b0 sc)))) :
    jm_PP l b0 sc L xs H0 D dA d mi pc al st w σ out σ1 w1 :=
  ⟨⟨hn ▸ hP.1.1, hs ▸ hP.1.2.1, fun h => ht ▸ hP.1.2.2.1 h, fun h => absurd (hP.1.2.2.2 h).1 (by decide)⟩, fun p e R s m args below meth c H locs cells slots ls c0 s0 hT hlv hwd hS hw hw0 hc hs' hz h1 h2 =>
    hrow p e R s m args below meth c H locs cells slots _ ls hT hwd hS (fun H1 locs1 hwd1 hS1 => hP.2 p e R s m args below meth c H1 locs1 cells slots ls c0 s0 hT hlv hwd1 hS1 (fun _ _ => rfl) (fun h => absurd h (by decide)) (hc.trans hn.symm) (hs'.trans hs.symm) (fun h => hz (ht ▸ h)) h1 h2)⟩
end
