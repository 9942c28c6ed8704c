/-! a callee's contract out of its run -/
theorem jm_Wm {p : Program} {l : Launch} {e : Env} {R : Room} {s : State} {m : MethodId} {args : Array Value} {below : List Frame} {meth : Method} {c : Code} {H : Heap} {locs : List Loc} {cells slots : Nat} {Q Q' : State → Prop} {g : JFrame} (h : W p l e R s m args below meth c H locs cells slots Q g) (hq : ∀ t, Q t → Q' t) : W p l e R s m args below meth c H locs cells slots Q' g := fun T hT X => by
  obtain ⟨t, a, b⟩ := h T hT X
  exact ⟨t, a, hq t b⟩
def jm_rm (d k n : Nat) : Room := { frames := d, cells := k, slots := n, locals := 36 * d }
def jm_N (b0 sc L : Nat) (xs : Nat → Int32) (H0 : Heap) (D : va_G) (dA : Nat → ClassId) (σ : jm_S) (U : State) : Prop :=
  va_K D jt_cl (jt_ty dA) U ∧ jm_wd b0 sc L xs D dA σ U.heap ∧ (∀ q, q < b0 → U.heap[q]? = H0[q]?) ∧ b0 ≤ U.heap.size ∧ (va_X sc L xs U H0 ∧ (∀ w ∈ jt_ts, w.before #[] ({ U with heap := H0 } : State) = true) ∧ ∀ z ∈ jt_nc, va_Nc z.1 z.2 U) ∧ sc < b0 ∧ H0.size = b0 ∧ (σ.2.2.2.2.2.2 = 0 → U.heap.size ≤ b0 + jm_nc σ)
def jm_Pc (b0 sc L : Nat) (xs : Nat → Int32) (H0 : Heap) (D : va_G) (dA : Nat → ClassId) (σ : jm_S) (as : List Value) : Array Value → State → Prop := fun a U =>
  a = (as.map (jm_v b0 sc)).toArray ∧ (∀ w ∈ jt_tb, w.before a U = true) ∧ jm_N b0 sc L xs H0 D dA σ U
theorem jm_N_mv {b0 sc L : Nat} {xs : Nat → Int32} {H0 : Heap} {D : va_G} {dA : Nat → ClassId} {σ : jm_S} {U V : State} (h : jm_N b0 sc L xs H0 D dA σ U) (hW : U.WarmedH V.vm) (hh : V.heap = U.heap) : jm_N b0 sc L xs H0 D dA σ V := by
  obtain ⟨h1, h2, h3, h4, h5, h6, h7, h8⟩ := h
  exact ⟨h1.moved hW.alike, by rw [hh]; exact h2, by rw [hh]; exact h3, by rw [hh]; exact h4, ⟨h5.1.moved hW.alike, jm_ts_mv hW h5.2.1, fun z hz => (h5.2.2 z hz).moved hW.alike⟩, h6, h7, by rw [hh]; exact h8⟩
theorem jm_blind (b0 sc L : Nat) (xs : Nat → Int32) (H0 : Heap) (D : va_G) (dA : Nat → ClassId) (σ : jm_S) (as : List Value) : FrameBlind (jm_Pc b0 sc L xs H0 D dA σ as) := by
  intro a U g mk h
  have hW : U.WarmedH (U.calling g mk a).vm := State.WarmedH.refl U
  exact ⟨h.1, fun w hw => jm_tr (jt_wk hw) hW (h.2.1 w hw), jm_N_mv h.2.2 hW rfl⟩
theorem jm_c1_cat : ∀ {as : List Value}, jm_c1 as = true → ∀ v ∈ as, v.category = 1
  | [], _, v, hv => by cases hv
  | .int _ :: t, h, v, hv => by
    rcases List.mem_cons.mp hv with rfl | hv
    · rfl
    · exact jm_c1_cat (as := t) h v hv
  | .ref _ :: t, h, v, hv => by
    rcases List.mem_cons.mp hv with rfl | hv
    · rfl
    · exact jm_c1_cat (as := t) h v hv
  | .long _ :: _, h, _, _ => by cases h
  | .float _ :: _, h, _, _ => by cases h
  | .double _ :: _, h, _, _ => by cases h
  | .null :: _, h, _, _ => by cases h
  | .retAddr _ :: _, h, _, _ => by cases h
theorem jm_entry {b0 sc y : Nat} {as : List Value} (hc : jm_c1 as = true) (hl : as.length ≤ jt_ml y) (m : MethodId) : ∃ ls, entryFrame m (as.map (jm_v b0 sc)).toArray (jt_ml y) = F0 m 0 ls [] ∧ jm_lv b0 sc ls (jt_ml y) (jm_en y as) := by
  have hcat : ∀ v ∈ as.map (jm_v b0 sc), v.category = 1 := by
    intro v hv
    obtain ⟨u, hu, rfl⟩ := List.mem_map.mp hv
    rw [jm_v_cat]
    exact jm_c1_cat hc u hu
  refine ⟨_, entry_eq m (as.map (jm_v b0 sc)) hcat (jt_ml y), ?_, ?_, ?_, ?_⟩
  · simp; omega
  · refine ⟨fun i v hi hv => ?_, fun i hi => ?_⟩
    · exfalso
      rw [List.getElem?_toArray] at hi
      rcases Nat.lt_or_ge i (as.map (jm_v b0 sc)).length with h | h
      · rw [List.getElem?_append_left (by simpa using h), List.getElem?_map] at hi
        cases hz : (as.map (jm_v b0 sc))[i]? with
        | none => rw [hz] at hi; cases hi
        | some u =>
          rw [hz] at hi
          have : u = v := by simpa using hi
          subst this
          have := hcat u (List.mem_of_getElem? hz)
          omega
      · rw [List.getElem?_append_right (by simpa using h)] at hi
        have := List.mem_of_getElem? hi
        rw [List.mem_replicate] at this
        cases this.2
    · exfalso
      rw [List.getElem?_toArray] at hi
      have := List.mem_of_getElem? hi
      rcases List.mem_append.mp this with h | h
      · obtain ⟨u, -, hu⟩ := List.mem_map.mp h
        cases hu
      · rw [List.mem_replicate] at h
        cases h.2
  · unfold jm_en
    simp; omega
  · intro i v hi
    unfold jm_en at hi
    rw [List.getD_eq_getElem?_getD] at hi
    rcases Nat.lt_or_ge i as.length with h | h
    · rw [List.getElem?_append_left (by simpa using h), List.getElem?_map] at hi
      have hz : as[i]? = some v := by
        cases hz : as[i]? with
        | none => rw [hz] at hi; cases hi
        | some u => rw [hz] at hi; simpa using hi
      refine ⟨jm_c1_cat hc v (List.mem_of_getElem? hz), ?_⟩
      rw [List.getElem?_toArray, List.getElem?_append_left (by simpa using h)]
      simp [hz]
    · exfalso
      rw [List.getElem?_append_right (by simpa using h)] at hi
      cases hz : (List.replicate (jt_ml y - as.length) (none : Option Value))[i - (as.map some).length]? with
      | none => rw [hz] at hi; cases hi
      | some u =>
        rw [hz] at hi
        have := List.mem_of_getElem? hz
        rw [List.mem_replicate] at this
        rw [this.2] at hi
        cases hi
section
variable {l : Launch} {b0 sc L : Nat} {xs : Nat → Int32} {H0 : Heap} {D : va_G} {dA : Nat → ClassId} {d y : Nat} {as : List Value} {σ σ1 : jm_S} {out : Option Value ⊕ Nat} {w1 : Bool}
theorem jm_body (hl : ∀ e : Env, l.admits e → e.platform.stackTraces = false) (hP : jm_PP l b0 sc L xs H0 D dA d y 0 (jm_en y as) [] false σ out σ1 w1) (hc : jm_c1 as = true) (hn : as.length ≤ jt_ml y)
    {S : Spec} {p : Program} {e : Env} {s : State} {m : MethodId} {args : Array Value} {below : List Frame} {meth : Method} {c : Code} {s₁ : State} (B : BodyLoose p l (jt_nm y) S (jt_by y) (jt_ml y) (jt_rt y) e s m args below meth c s₁) (hml : c.maxLocals = jt_ml y)
    (hR : S.room = jm_rm d (jm_nc σ1 - jm_nc σ) (jm_ns σ1 - jm_ns σ)) (hh : c.exceptionTable.toList.map (fun h => (h.startPc, h.endPc, h.handlerPc, h.catchType)) = jt_hh y) (hp : jm_Pc b0 sc L xs H0 D dA σ as args s) :
    W p l e S.room s m args below meth c s.heap [] 0 0 (jm_Q b0 sc L xs H0 D dA below s out σ1 w1 (jm_nc σ) (jm_ns σ)) (entryFrame m args (jt_ml y)) := by
  obtain ⟨rfl, hts, hK, hwd, hlow, hb, ⟨hX, htw⟩, hsc, hz, ht⟩ := hp
  obtain ⟨ls, he, hlv⟩ := jm_entry (b0 := b0) (sc := sc) hc hn m
  rw [he, hR]
  have hT : jm_T b0 sc L xs H0 D dA p e (jm_rm d (jm_nc σ1 - jm_nc σ) (jm_ns σ1 - jm_ns σ)) s m _ meth c d y :=
    ⟨B.exec, B.bytes, hml, B.returns, B.notSynchronized, (name_of_methodNamed B.named B.method).1, findClass_of_methodNamed B.named, hts, hK, rfl, Nat.le_refl _, ⟨hl e B.admits, htw⟩, hh, hX, hsc, hz⟩
  have h0 := hP.1
  exact hP.2 p e (jm_rm d (jm_nc σ1 - jm_nc σ) (jm_ns σ1 - jm_ns σ)) s m _ below meth c s.heap [] 0 0 ls (jm_nc σ) (jm_ns σ) hT hlv hwd ⟨by omega, fun q h1 _ => hlow q (by omega), fun q h => by cases h⟩ (fun q h => by cases h) (fun _ => rfl) (Nat.zero_add _) (Nat.zero_add _) ht (by show _ ≤ _ + (jm_nc σ1 - jm_nc σ); omega) (by show _ ≤ _ + (jm_ns σ1 - jm_ns σ); omega)
def jm_Qc (b0 sc L : Nat) (xs : Nat → Int32) (H0 : Heap) (D : va_G) (dA : Nat → ClassId) (out : Option Value ⊕ Nat) (σ1 : jm_S) : Array Value → State → Outcome → State → Prop := fun _ s o t =>
  jm_oc b0 sc s t out o ∧ jm_wd b0 sc L xs D dA σ1 t.heap ∧ (∀ q, q < b0 → t.heap[q]? = H0[q]?) ∧ s.WarmedH t.vm
/-- an answer -/
theorem jm_met {v : Option Value} (hl : ∀ e : Env, l.admits e → e.platform.stackTraces = false) (hP : jm_PP l b0 sc L xs H0 D dA d y 0 (jm_en y as) [] false σ (.inl v) σ1 w1) (hc : jm_c1 as = true) (hn : as.length ≤ jt_ml y) (hpl : plainFor (jt_nm y) = true) (hh : jt_hh y = []) :
    Met l (jt_nm y) [Cond.code (jt_nm y) (jt_by y) (jt_ml y) (jt_rt y)] (jm_rm d (jm_nc σ1 - jm_nc σ) (jm_ns σ1 - jm_ns σ)) (jm_Pc b0 sc L xs H0 D dA σ as) (jm_Qc b0 sc L xs H0 D dA (.inl v) σ1) (jm_nc σ1 - jm_nc σ) (jm_ns σ1 - jm_ns σ) (fun q => b0 ≤ q ∧ w1 = true) := by
  refine MetFree.of_bodySF (code := jt_by y) (maxLocals := jt_ml y) (ret := jt_rt y) hpl ?_ ?_
  · intro args s m h hn'
    obtain ⟨meth, c, h1, h2, h3, h4, h5, h6, -, -⟩ := Cond.code_spec hn' (atoms_spec (ws := [Cond.code (jt_nm y) (jt_by y) (jt_ml y) (jt_rt y)]) h _ List.mem_cons_self)
    exact ⟨meth, c, h1, h2, h3, h4, h5, h6⟩
  intro p e s m args below meth c s₁ B hml hp _
  have hcw := atoms_spec (ws := [Cond.code (jt_nm y) (jt_by y) (jt_ml y) (jt_rt y)]) B.pre _ List.mem_cons_self
  obtain ⟨meth', c', k1, k2, -, -, -, -, k7, -⟩ := Cond.code_spec B.named hcw
  have hc' : c' = c := by
    have hcode := B.here.code
    rw [State.code?_eq] at hcode
    have hvm : s₁.vm = s.vm := by rw [B.state]; rfl
    rw [hvm, k1] at hcode
    simp only [Option.bind_some, k2] at hcode
    exact Option.some.inj hcode
  subst hc'
  have hex : c'.exceptionTable.toList.map (fun h => (h.startPc, h.endPc, h.handlerPc, h.catchType)) = jt_hh y := by
    rw [hh, List.map_eq_nil_iff]
    rw [Array.isEmpty_iff] at k7
    rw [k7]
  have hh0 : s₁.heap = s.heap := by rw [B.state]; rfl
  obtain ⟨t, a0, o, a1, a2, a3, a4, a5, a6, Ls, a7, a8⟩ := jm_body hl hP hc hn B hml rfl hex hp s₁ hh0 (Stand.of_body B)
  have ho : o = .returned (v.map (jm_v b0 sc)) := a3
  exact ⟨t, o, a0, a1, a2, ⟨a3, a4, a5, a6⟩, Ls, ⟨⟨_, ho⟩, a6, a7⟩, a8⟩
end
