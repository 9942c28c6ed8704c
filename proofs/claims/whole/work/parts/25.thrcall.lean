/-! calls that throw: the caller is left too, or it catches -/
section
variable {l : Launch} {b0 sc L : Nat} {xs : Nat → Int32} {H0 : Heap} {D : va_G} {dA : Nat → ClassId} {d mi pc nx a b y E : Nat} {cv : Int32} {tl : List Nat} {al : List (Option Value)} {st as rest : List Value} {w w1 : Bool} {σ σ1 : jm_S} {q : Prop}
def jm_Qt (b0 sc L : Nat) (xs : Nat → Int32) (H0 : Heap) (D : va_G) (dA : Nat → ClassId) (E : Nat) (σ σ1 : jm_S) (w1 : Bool) : Array Value → State → Outcome → State → Prop := fun a s o t =>
  jm_Qc b0 sc L xs H0 D dA (.inr E) σ1 a s o t ∧ ∃ Ls, s.sameButNew ({ t with vm := s.vm } : State) Ls (jm_nc σ1 - jm_nc σ) (jm_ns σ1 - jm_ns σ) ∧ ∀ q ∈ Ls, b0 ≤ q.base ∧ w1 = true
theorem jm_metT (hl : ∀ e : Env, l.admits e → e.platform.stackTraces = false) (hP : jm_PP l b0 sc L xs H0 D dA d y 0 (jm_en y as) [] false σ (.inr E) σ1 w1) (hc : jm_c1 as = true) (hn : as.length ≤ jt_ml y) (hpl : plainFor (jt_nm y) = true) (hh : jt_hh y = []) :
    MetFree l (jt_nm y) (headSpec [Cond.code (jt_nm y) (jt_by y) (jt_ml y) (jt_rt y)] (jm_rm d (jm_nc σ1 - jm_nc σ) (jm_ns σ1 - jm_ns σ))) (jm_Pc b0 sc L xs H0 D dA σ as) (fun _ _ _ _ _ => True) (jm_Qt b0 sc L xs H0 D dA E σ σ1 w1) := by
  refine MetFree.of_bodySF (code := jt_by y) (maxLocals := jt_ml y) (ret := jt_rt y) hpl ?_ ?_
  · intro args s m h hn'
    obtain ⟨meth, c, h1, h2, h3, h4, h5, h6, -, -⟩ := Cond.code_spec hn' (atoms_spec (ws := [Cond.code (jt_nm y) (jt_by y) (jt_ml y) (jt_rt y)]) h _ List.mem_cons_self)
    exact ⟨meth, c, h1, h2, h3, h4, h5, h6⟩
  · intro p e s m args below meth c s₁ B hml hp _
    have hcw := atoms_spec (ws := [Cond.code (jt_nm y) (jt_by y) (jt_ml y) (jt_rt y)]) B.pre _ List.mem_cons_self
    obtain ⟨meth', c', k1, k2, -, -, -, -, k7, -⟩ := Cond.code_spec B.named hcw
    have hc' : c' = c := by
      have hcode := B.here.code
      rw [State.code?_eq] at hcode
      have hvm : s₁.vm = s.vm := by rw [B.state]; rfl
      rw [hvm, k1] at hcode
      simp only [Option.bind_some, k2] at hcode
      exact Option.some.inj hcode
    subst hc'
    have hex : c'.exceptionTable.toList.map (fun h => (h.startPc, h.endPc, h.handlerPc, h.catchType)) = jt_hh y := by
      rw [hh, List.map_eq_nil_iff]
      rw [Array.isEmpty_iff] at k7
      rw [k7]
    have hh0 : s₁.heap = s.heap := by rw [B.state]; rfl
    obtain ⟨t, a1, o, b1, b2, b3, b4, b5, b6, Ls, b7, b8⟩ := jm_body hl hP hc hn B hml rfl hex hp s₁ hh0 (Stand.of_body B)
    exact ⟨t, o, a1, b1, b2, ⟨b3, b4, b5, b6⟩, Ls, b7, b8⟩
/-- the callee has thrown; the caller stands with the exception over its frame -/
theorem jm_thrown (hl : ∀ e : Env, l.admits e → e.platform.stackTraces = false) (hPa : jm_PP l b0 sc L xs H0 D dA d y 0 (jm_en y as) [] false σ (.inr E) σ1 w1) (hc1 : jm_c1 as = true) (hn1 : as.length ≤ jt_ml y) (hml7 : jt_ml y ≤ 17) (hpl : plainFor (jt_nm y) = true) (hh : jt_hh y = []) (hcw : Cond.code (jt_nm y) (jt_by y) (jt_ml y) (jt_rt y) ∈ jt_tb) (hini : Cond.initialized (jt_nm y).cls ∈ jt_tb)
    {p : Program} {e : Env} {R : Room} {s : State} {m : MethodId} {args : Array Value} {below : List Frame} {meth : Method} {c : Code} {T : State} {locs : List Loc} {cells slots : Nat} (X : Stand p l e R s m args below meth c T locs cells slots)
    (hT : jm_T b0 sc L xs H0 D dA p e R s m args meth c (d + 1) mi) (hwd : jm_wd b0 sc L xs D dA σ T.heap) (hS : va_S (fun q => b0 ≤ q) H0 T.heap locs) (hsz : σ.2.2.2.2.2.2 = 0 → T.heap.size ≤ b0 + jm_nc σ) {ls : Array Slot} (hls : ls.size = jt_ml mi) {ig : Instr} {rs : List Value} (hdg : decode (jt_by mi) pc = .ok (ig, 3)) (hcat : (rs.map fun v => v.category).sum ≤ 8) {mk : MethodId} (hnamed : s.methodNamed? (jt_nm y) = some mk)
    (hf : cells + (jm_nc σ1 - jm_nc σ) ≤ R.cells ∧ slots + (jm_ns σ1 - jm_ns σ) ≤ R.slots) :
    ∃ (x : Addr) (cell : Cell) (Ls : List Loc) (T' : State), Stand p l e R s m args below meth c T' (locs ++ Ls) (cells + (jm_nc σ1 - jm_nc σ)) (slots + (jm_ns σ1 - jm_ns σ)) ∧ (∀ q ∈ Ls, b0 ≤ q.base ∧ w1 = true) ∧ T'.heap[x]? = some cell ∧ s.vm.findClass (jt_xn E) = some cell.cls ∧ cell.vm = .none ∧ (∃ k : Class, s.vm.classes[cell.cls]? = some k) ∧ jm_wd b0 sc L xs D dA σ1 T'.heap ∧ (∀ q, q < b0 → T'.heap[q]? = H0[q]?) ∧
      Steps p.tables e below (doInvoke e (T.setTop (F0 m pc ls rs)) [] mk (as.map (jm_v b0 sc)).toArray).1 ((T'.setTop (F0 m pc ls rs)).pushFrame (.throwing x)) := by
  have hM := jm_metT hl hPa hc1 hn1 hpl hh
  have hts := hT.2.2.2.2.2.2.2.1
  have hW := X.warmed
  have hroom : 2 * (F0 m pc ls rs).monitorRoom + (rs.map fun v => v.category).sum ≤ 8 := lv_room hcat
  have k1 := hT.2.2.2.2.2.2.2.2.2.1
  have k2 := hT.2.2.2.2.2.2.2.2.2.2.1
  have hPc : jm_Pc b0 sc L xs H0 D dA σ as (as.map (jm_v b0 sc)).toArray T := jm_pre hT hwd hS rfl rfl hW hsz
  obtain ⟨x, Ls, t, T', hq, e1, e2, X', hF, stp⟩ := xt_call X (g := F0 m pc ls rs) rfl (hls.trans hT.2.2.1.symm) (ig := ig) (len := 3) (by rw [hT.2.1]; exact hdg) (X.named hnamed) hM (a := (as.map (jm_v b0 sc)).toArray) (bytes := jt_by y) (maxL := jt_ml y) (ret := jt_rt y)
    (word_at hW (Or.inl rfl) (hts _ hcw)) (word_at hW (Or.inl rfl) (hts _ hini)) (atoms_intro (fun z hz => by
      rw [List.mem_singleton] at hz
      subst hz
      exact word_at hW (Or.inl rfl) (hts _ hcw))) (by show d + 1 ≤ _; omega) (by show 2 * (F0 m pc ls rs).monitorRoom + (rs.map fun v => v.category).sum + (jt_ml y + 11) + (36 * d) ≤ _; omega) hf.1 hf.2 (jm_blind b0 sc L xs H0 D dA σ as _ T _ mk hPc) (k := jm_nc σ1 - jm_nc σ) (n := jm_ns σ1 - jm_ns σ) (F := fun Ls => ∀ q ∈ Ls, b0 ≤ q.base ∧ w1 = true) (fun o t h => by
      obtain ⟨⟨⟨x, cell, ho, -⟩, -, -, hWt⟩, Ls, hsb, hF⟩ := h
      exact ⟨x, Ls, ho, hWt, hsb, hF⟩)
  obtain ⟨⟨⟨x', cell, ho, g1, g2, g3, -⟩, gw, glow, -⟩, -⟩ := hq
  cases ho
  have g2' : s.vm.findClass (jt_xn E) = some cell.cls := by
    have : T.vm.findClass (jt_xn E) = some cell.cls := g2
    rw [hW.alike.findClass] at this
    exact this
  obtain ⟨cX, kX, hfc, hkX, -, -⟩ := Cond.instantiable_spec (hts _ (jt_xi E))
  have hcc : cX = cell.cls := Option.some.inj (hfc.symm.trans g2')
  exact ⟨x, cell, Ls, T', X', hF, by rw [e1]; exact g1, g2', g3, ⟨kX, by rw [← hcc]; exact hkX⟩, by rw [e1]; exact gw, by rw [e1]; exact glow, stp⟩
/-- ... and leaves the caller too -/
theorem jm_leaves {p : Program} {e : Env} {R : Room} {s : State} {m : MethodId} {args : Array Value} {below : List Frame} {meth : Method} {c : Code} {T' : State} {locs Ls : List Loc} {cells slots c0 s0 : Nat} {ls : Array Slot} {rs : List Value} {x : Addr} {cell : Cell} (hh : jt_hh mi = [])
    (hT : jm_T b0 sc L xs H0 D dA p e R s m args meth c (d + 1) mi) (hS : ∀ q ∈ locs, b0 ≤ q.base) (hw : ∀ q ∈ locs, w = true) (h01 : jm_nc σ ≤ jm_nc σ1 ∧ jm_ns σ ≤ jm_ns σ1) (hc : cells + c0 = jm_nc σ) (hs : slots + s0 = jm_ns σ)
    (X' : Stand p l e R s m args below meth c T' (locs ++ Ls) (cells + (jm_nc σ1 - jm_nc σ)) (slots + (jm_ns σ1 - jm_ns σ))) (hL : ∀ q ∈ Ls, b0 ≤ q.base ∧ w1 = true) (g1 : T'.heap[x]? = some cell) (g2 : s.vm.findClass (jt_xn E) = some cell.cls) (g3 : cell.vm = .none) (g4 : ∃ k : Class, s.vm.classes[cell.cls]? = some k) (gw : jm_wd b0 sc L xs D dA σ1 T'.heap) (glow : ∀ q, q < b0 → T'.heap[q]? = H0[q]?) :
    ∃ t, Steps p.tables e below ((T'.setTop (F0 m pc ls rs)).pushFrame (.throwing x)) t ∧ jm_Q b0 sc L xs H0 D dA below s (.inr E) σ1 (w || w1) c0 s0 t := by
  have hex : ∀ z ∈ c.exceptionTable.toList, covers z (F0 m pc ls rs).pc = false := by
    intro z hz
    have := hT.2.2.2.2.2.2.2.2.2.2.2.2.1
    rw [hh, List.map_eq_nil_iff] at this
    rw [this] at hz; cases hz
  obtain ⟨stp, a1, a2, a3, a4⟩ := X'.leaveThrown x (g := F0 m pc ls rs) rfl rfl rfl hex hT.2.2.2.2.1
  refine ⟨_, stp, .threw x, a1, a2, ⟨x, cell, rfl, g1, g2, g3, g4⟩, gw, glow, a3, locs ++ Ls, ?_, fun q hq => ?_⟩
  · rw [show jm_nc σ1 - c0 = cells + (jm_nc σ1 - jm_nc σ) by omega, show jm_ns σ1 - s0 = slots + (jm_ns σ1 - jm_ns σ) by omega]
    exact a4
  · rcases List.mem_append.mp hq with k | k
    · exact ⟨hS q k, by rw [hw q k]; rfl⟩
    · exact ⟨(hL q k).1, by rw [(hL q k).2]; simp⟩
end
