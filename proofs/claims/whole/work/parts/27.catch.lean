/-! a thrown exception is caught: the catch types may be linked on the way -/
section
variable {e : Env} {f : JFrame} {a : Addr}
theorem xc_go {Q : Handler → Pre} {E : CtlPost} {d : Bool} {acts : List Action} {s : State} {x : ExceptionTableEntry} {t : List ExceptionTableEntry} {c : ClassId} {cell : Cell} (hx : covers x f.pc = true) (h0 : x.catchType ≠ 0)
    (hl : s.vm.ClassLinks e.platform f.method.cls x.catchType c) (hcell : s.heap[a]? = some cell) (hobj : cell.vm = .none) (hk : ∃ k, s.vm.classes[cell.cls]? = some k) (hc : ∃ k, s.vm.classes[c]? = some k) :
    wp (findHandler.go f a (x :: t)) Q E e d acts s ↔ if s.vm.assignable cell.cls c = true then Q (.found x.handlerPc) d acts (s.setVm (s.vm.noted f.method.cls x.catchType (.cls c))) else wp (findHandler.go f a t) Q E e d acts (s.setVm (s.vm.noted f.method.cls x.catchType (.cls c))) := by
  simp only [covers] at hx
  have hobj' : ∀ k, cell.vm ≠ .statics k := fun k h => by rw [hobj] at h; cases h
  obtain ⟨h1, h2⟩ := (resolveClass_links e.toSetting hl).op (op := VmOp.resolveClass f.method.cls x.catchType) rfl
  have hal : s.vm.Alike (s.vm.noted f.method.cls x.catchType (.cls c)) := (Vm.Alike.refl s.vm).noted _ _ _
  obtain ⟨k1, hk1⟩ := hk
  obtain ⟨k2, hk2⟩ := hc
  obtain ⟨j1, hj1, -⟩ := hal.2.2 _ _ hk1
  obtain ⟨j2, hj2, -⟩ := hal.2.2 _ _ hk2
  cases hfit : s.vm.assignable cell.cls c with
  | true =>
    have hfit' : (s.vm.noted f.method.cls x.catchType (.cls c)).assignable cell.cls c = true := by rw [hal.assignable]; exact hfit
    simp [findHandler.go, hx, h0, h1, h2, hcell, hobj', hj1, hj2, hfit', VmOp.dirties, VmOp.acts]
  | false =>
    have hfit' : (s.vm.noted f.method.cls x.catchType (.cls c)).assignable cell.cls c = false := by rw [hal.assignable]; exact hfit
    simp [findHandler.go, hx, h0, h1, h2, hcell, hobj', hj1, hj2, hfit', VmOp.dirties, VmOp.acts]
/-- the search ends at a handler, with warmer tables -/
def xc_F (e : Env) (s : State) (f : JFrame) (a : Addr) (pc : Nat) (vm' : Vm) : Prop := ∀ (Q : Handler → Pre) (E : CtlPost) (d : Bool) (acts : List Action), wp (findHandler f a) Q E e d acts s ↔ Q (.found pc) d acts (s.setVm vm')
theorem xc_step {tb : Tables} {s target : State} {g : JFrame} {c : Code} {below : List Frame} (h : At s g.method c below) {pc : Nat} {vm' : Vm} (hfind : xc_F e ((s.setTop g).pushFrame (.throwing a)) g a pc vm')
    (hrest : Steps tb e below ((s.setVm vm').setTop { g with pc := pc, stack := [.ref a] }) target) : Steps tb e below ((s.setTop g).pushFrame (.throwing a)) target := by
  obtain ⟨hgo, hw⟩ := h.throwing a
  refine Steps.head hgo hw ?_
  obtain ⟨g₀, hg⟩ := Option.isSome_iff_exists.mp h.top
  obtain ⟨r, hr⟩ := State.topJava?_eq_some.mp hg
  have key : (stepThrowing e ((s.setTop g).pushFrame (.throwing a)) a (.java g :: s.frames.tail)).1 = (((s.setTop g).pushFrame (.throwing a)).setVm vm').setFrames (.java { g with pc := pc, stack := [.ref a] } :: s.frames.tail) := by
    simp only [stepThrowing, searchFrame, vmDo]
    generalize hres : Sem.go _ e false [] ((s.setTop g).pushFrame (.throwing a)) = res
    obtain ⟨as, rfl, -⟩ := Sem.eq_ok_of hres (a := Handler.found pc) (s' := ((s.setTop g).pushFrame (.throwing a)).setVm vm') (acts' := []) (by simp [hfind _ _ _ _])
    rfl
  rw [stepThread_throwing (frames_entered h.top _), key]
  have hr' : (s.setVm vm').frames = .java g₀ :: r := hr
  rw [State.setTop_of_frames _ hr'] at hrest
  have e1 : (((s.setTop g).pushFrame (.throwing a)).setVm vm').setFrames (.java { g with pc := pc, stack := [.ref a] } :: s.frames.tail) = (s.setVm vm').setFrames (.java { g with pc := pc, stack := [.ref a] } :: r) := by
    rw [hr, List.tail_cons, State.pushFrame, State.setTop_of_frames _ hr]
    show (((s.setVm vm').setFrames _).setFrames _).setFrames _ = _
    rw [State.setFrames_setFrames, State.setFrames_setFrames]
  rw [e1]
  exact hrest
end
/-! the handlers of the law's own methods -/
section
variable {l : Launch} {b0 sc L : Nat} {xs : Nat → Int32} {H0 : Heap} {D : va_G} {dA : Nat → ClassId} {d mi pc E : Nat} {σ1 : jm_S}
  {p : Program} {e : Env} {R : Room} {s : State} {m : MethodId} {args : Array Value} {below : List Frame} {meth : Method} {c : Code} {T : State} {locs : List Loc} {cells slots c0 s0 : Nat} {ls : Array Slot}
theorem jm_hand {h : Nat} {x : Int32} (hh : jt_hcode mi h x = true) (hrt : jt_rt mi = some .int) (X : Stand p l e R s m args below meth c T locs cells slots) (hT : jm_T b0 sc L xs H0 D dA p e R s m args meth c d mi) (hls : ls.size = jt_ml mi ∧ lv_wf ls) (hS : ∀ q ∈ locs, b0 ≤ q.base) (gw : jm_wd b0 sc L xs D dA σ1 T.heap) (glow : ∀ q, q < b0 → T.heap[q]? = H0[q]?) (hc : cells + c0 = jm_nc σ1) (hs : slots + s0 = jm_ns σ1) (a : Addr) :
    ∃ t, Steps p.tables e below (T.setTop (F0 m h ls [.ref a])) t ∧ jm_Q b0 sc L xs H0 D dA below s (.inl (some (.int x))) σ1 true c0 s0 t := by
  have tail : ∀ (k : Nat) (ls' : Array Slot), jt_htail mi k x = true → W p l e R s m args below meth c T.heap locs cells slots (jm_Q b0 sc L xs H0 D dA below s (.inl (some (.int x))) σ1 true c0 s0) (F0 m k ls' []) := by
    intro k ls' hk
    unfold jt_htail at hk
    split at hk
    · rename_i n hdec
      simp only [Bool.and_eq_true, beq_iff_eq, decide_eq_true_eq] at hk
      refine lv_iconst hT.1 hT.2.1 hdec hk.1 ?_
      exact jm_Wm (W.iret (Qc := jm_Qc b0 sc L xs H0 D dA (.inl (some (.int x))) σ1) (free := fun z => b0 ≤ z ∧ true = true) hT.1 hT.2.1 (hT.2.2.2.1.trans hrt) (fun t ht hWt => ⟨rfl, by rw [ht]; exact gw, by rw [ht]; exact glow, hWt⟩) (fun z hz => ⟨hS z hz, rfl⟩) hk.2 (hlocks := hT.2.2.2.2.1)) (fun t ht => jm_Q_of ht hc hs)
    · cases hk
  have hlv : lv_has ls (jt_ml mi) [] := ⟨hls.1, hls.2, fun q hq => by cases hq⟩
  unfold jt_hcode at hh
  split at hh
  · rename_i k hdec
    simp only [Bool.and_eq_true, decide_eq_true_eq] at hh
    exact lv_astore_n hT.1 hT.2.1 hdec rfl hlv hh.1 rfl (fun ls' _ => tail _ ls' hh.2) T rfl X
  · rename_i k hdec
    simp only [Bool.and_eq_true, decide_eq_true_eq] at hh
    exact lv_astore hT.1 hT.2.1 hdec hlv hh.1 rfl (fun ls' _ => tail _ ls' hh.2) T rfl X
  · cases hh
end
