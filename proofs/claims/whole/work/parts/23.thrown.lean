/-! a call that throws -/
section
variable {p : Program} {l : Launch} {e : Env} {R : Room} {s : State} {m : MethodId} {args : Array Value} {below : List Frame} {meth : Method} {c : Code} {T : State} {locs : List Loc} {cells slots : Nat}
/-- the callee throws: the machine stands at the caller's frame with the exception under way -/
theorem xt_call (X : Stand p l e R s m args below meth c T locs cells slots) {g : JFrame} (hg : g.method = m) (hsize : g.locals.size = c.maxLocals) {ig : Instr} {len : Nat} (hdg : decode c.code g.pc = .ok (ig, len))
    {y : MethodName} {mk : MethodId} (hn : T.methodNamed? y = some mk) {a : Array Value} {S : Spec} {P : Array Value → State → Prop} {Q : Array Value → State → Outcome → State → Prop} (hM : MetFree l y S P (fun _ _ _ _ _ => True) Q)
    {bytes : ByteArray} {maxL : Nat} {ret : Option FieldType} (hcode : (Cond.code y bytes maxL ret).before a T = true) (hinit : (Cond.initialized y.cls).before a T = true) (hpre : S.pre.before a T = true)
    (hfr : S.room.frames + 1 ≤ R.frames) (hlo : 2 * g.monitorRoom + (g.stack.map fun v => v.category).sum + (maxL + 11) + S.room.locals ≤ R.locals) (h4 : cells + S.room.cells ≤ R.cells) (h5 : slots + S.room.slots ≤ R.slots) (hP : P a (T.calling g mk a))
    {k n : Nat} {F : List Loc → Prop} (hQ : ∀ o t, Q a (T.calling g mk a) o t → ∃ (x : Addr) (Ls : List Loc), o = .threw x ∧ (T.calling g mk a).WarmedH t.vm ∧ (T.calling g mk a).sameButNew ({ t with vm := (T.calling g mk a).vm } : State) Ls k n ∧ F Ls) :
    ∃ (x : Addr) (Ls : List Loc) (t T' : State), Q a (T.calling g mk a) (.threw x) t ∧ T'.heap = t.heap ∧ T'.vm = t.vm ∧ Stand p l e R s m args below meth c T' (locs ++ Ls) (cells + k) (slots + n) ∧ F Ls ∧
      Steps p.tables e below (doInvoke e (T.setTop g) [] mk a).1 ((T'.setTop g).pushFrame (.throwing x)) := by
  obtain ⟨methY, cY, hmY, hcY, -, hlY, -, -, -, -⟩ := Cond.code_spec hn hcode
  obtain ⟨kY, hkY, -⟩ := className_of_methodNamed hn
  have hinitY : kY.init = .initialized := Cond.initialized_spec (findClass_of_methodNamed hn) hkY hinit
  have h : At T g.method c below := by rw [hg]; exact X.here
  have happ : S.appliesLoose y e.platform (T.calling g mk a) = true :=
    Spec.appliesLoose_calling (g := g) h hdg hn hkY hinitY (X.room_calling (g := g) (R' := S.room) hsize hmY hcY hfr (by rw [hlY]; exact hlo) h4 h5) hpre
  obtain ⟨mid, hmid⟩ := h.above
  have hfr' : (T.setTop g).frames = (.java g :: mid) ++ below := by rw [State.frames_setTop' g h.top, hmid]; rfl
  obtain ⟨o, t, hsteps, -, hend, hq⟩ := Steps.callFree hM p X.admits X.cas X.clock (acts := []) hfr' happ hP trivial
  have hq' : Q a (T.calling g mk a) o t := hq
  obtain ⟨x, Ls, rfl, hW₂, hsb, hF⟩ := hQ o t hq'
  obtain ⟨e2, q2, q3, q4, q5, q6⟩ := id hsb
  rw [State.frames_setTop' g h.top] at hend
  have hf₂ : t.frames = .throwing x :: .java g :: T.frames.tail := hend
  have e3 : t = ({ (T.calling g mk a).setFrames t.frames with heap := t.heap, slotsUsed := t.slotsUsed } : State).setVm t.vm := by
    have : t = ({ t with vm := (T.calling g mk a).vm } : State).setVm t.vm := rfl
    rw [e2] at this
    exact this
  have hW' : T.WarmedH t.vm := hW₂
  obtain ⟨g₀, hg0⟩ := Option.isSome_iff_exists.mp h.top
  obtain ⟨r, hr⟩ := State.topJava?_eq_some.mp hg0
  have ht₂ : t = ((({ T with heap := t.heap, slotsUsed := t.slotsUsed } : State).setVm t.vm).setTop g).pushFrame (.throwing x) := by
    have hr' : (({ T with heap := t.heap, slotsUsed := t.slotsUsed } : State).setVm t.vm).frames = .java g₀ :: r := hr
    have hcur : (({ T with heap := t.heap, slotsUsed := t.slotsUsed } : State).setVm t.vm).cur < (({ T with heap := t.heap, slotsUsed := t.slotsUsed } : State).setVm t.vm).threads.size := State.cur_lt_of_frames hr'
    refine e3.trans ?_
    rw [State.setTop_of_frames _ hr', State.pushFrame, State.frames_setFrames _ hcur, State.setFrames_setFrames, hf₂, State.calling_eq h.top, State.setFrames_setFrames, hr]
    rfl
  have hsame : T.sameButNew ({ T with heap := t.heap, slotsUsed := t.slotsUsed } : State) Ls k n := by
    refine ⟨?_, q2, q3, q4, q5, q6⟩
    obtain ⟨t', ht', -⟩ := State.frames_cons hr
    show ({ T with heap := t.heap, slotsUsed := t.slotsUsed } : State) = { T.setFrames T.frames with heap := t.heap, slotsUsed := t.slotsUsed }
    rw [State.setFrames_self ht']
  subst hg
  refine ⟨x, Ls, t, (({ T with heap := t.heap, slotsUsed := t.slotsUsed } : State).setVm t.vm), hq', rfl, rfl,
    ⟨X.admits, X.cas, X.clock, X.frames, X.room, X.hears, X.method, X.code, (X.here.setHeapUsed t.heap t.slotsUsed).setVm hW'.alike, X.tail, State.WarmedH.trans X.warmed hW', X.limits, X.bytes, X.same.trans (hsame.setVm s.vm)⟩, hF, ?_⟩
  rw [← ht₂]
  exact hsteps
end
