/-! THE CLAIM OUT OF ONE WALK OF THE LAW'S BODY. Your part is whole_start (and what it stands on); all else here is the same for every law, but numbers. -/
def R_law : String := "DriftNetLaw"
def lw_P (b : Addr) (xs : List Int32) (args : Array Value) (s : State) : Prop := args = #[.ref b] ∧ s.IntsAt b xs ∧ xs.length ≤ 2560 ∧ (Jvm.Cond.and given_1 narrow_1).before args s = true
def lw_Q (_ : Array Value) (s : State) (o : Outcome) (t : State) : Prop := o = .returned (some (.int 1)) ∧ Framed s o t [] 601024 7293034
def lw_Z (below : List Frame) (a : Array Value) (s : State) : State → Prop := fun t => ∃ o, t.status = .running ∧ Ended t below o ∧ lw_Q a s o t
/-- the law's own end, with 1 on the stack, nothing written that was there before, its room as the claim has it -/
theorem lw_ret {p : Program} {l : Launch} {e : Env} {s : State} {m : MethodId} {below : List Frame} {meth : Method} {c : Code} {b : Nat} (hx : p.tables.exec = Jvm.exec) (hb : c.code = code) (hr : meth.sig.returnType = ret) (hlocks : meth.locks = false) {pc : Nat} {H : Heap} {ls : Array Slot} (hdg : decode code pc = .ok (.ireturn, 1)) : W p l e room_1 s m #[Value.ref b] below meth c H [] 601024 7293034 (lw_Z below #[Value.ref b] s) (F0 m pc ls [.int 1]) := by
  intro T hT X
  obtain ⟨fs, hret, hrun, hended, hW, hframe⟩ := X.leave (v := some (.int 1)) (hlocks := hlocks) (fun h => by rw [hr] at h; cases h)
  have hmeth' : T.vm.method? m = some meth := X.method'
  refine ⟨T.setFrames fs, ?_, .returned (some (.int 1)), hrun, hended, rfl, ⟨_, rfl⟩, hW, hframe⟩
  jvm_step X.here [X.here.top, hx, hb, hdg, hmeth', hr, ret, narrow_b1]
  (try refine ⟨rfl, ?_⟩); (try refine ⟨rfl, ?_⟩)
  first | (intro acts; rw [hret _ acts rfl rfl rfl]) | rw [hret _ _ rfl rfl rfl]
  exact Steps.refl _
/-- what holds at the law's entry: the machine, the code, the tables' words (any of lw_tbl by 'hts w (by decide +kernel)'), the script of L ints xs at the cell b, what the Statement gives of the start (any of its parts by flat_of_before) -/
def lw_At (p : Program) (s : State) (m : MethodId) (meth : Method) (c : Code) (b L : Nat) (xs : Nat → Int32) : Prop :=
  p.tables.exec = Jvm.exec ∧ c.code = code ∧ meth.sig.returnType = ret ∧ c.maxLocals = 7 ∧ s.vm.findClass R_law = some m.cls ∧ (∀ w ∈ lw_tbl, w.before #[Value.ref b] s = true) ∧ va_X b L xs s s.heap ∧ b < s.heap.size ∧ meth.locks = false ∧ (Jvm.Cond.and given_1 narrow_1).before #[Value.ref b] s = true ∧ meth.name = "law" ∧ c.exceptionTable.isEmpty = true
theorem jt_ins {a : Nat} (h : a < 6) : Cond.instantiable (jt_R a) (jt_N a) ∈ jt_tb := by
  match a, h with
  | 0, _ => exact (jt_nw_ok (6, 8, 0, 6) (by decide +kernel)).2.2.2.1
  | 1, _ => exact (jt_nw_ok (0, 9, 1, 7) (by decide +kernel)).2.2.2.1
  | 2, _ => exact (jt_nw_ok (0, 15, 2, 5) (by decide +kernel)).2.2.2.1
  | 3, _ => exact (jt_nw_ok (0, 21, 3, 7) (by decide +kernel)).2.2.2.1
  | 4, _ => exact (jt_nw_ok (1, 9, 4, 9) (by decide +kernel)).2.2.2.1
  | 5, _ => exact (jt_nw_ok (6, 70, 5, 30) (by decide +kernel)).2.2.2.1
theorem jw_pa {s : State} {args : Array Value} {ty : FieldType} (hty : ∀ C, ty ≠ .object C) (h : (Cond.arrayClass ty).before args s = true) : ∃ cA, ArrOfT s cA ty ∧ va_RA s cA ty := by
  obtain ⟨cA, kA, comp, h1, h2, h3⟩ := Cond.arrayClass_spec h
  refine ⟨cA, fun N z => ⟨(fun k h => by cases h), kA, h2, comp, h3⟩, ?_⟩
  cases ty with
  | object C => exact absurd rfl (hty C)
  | _ => exact h1
theorem jw_oa {s : State} {args : Array Value} {C : String} (h : (Cond.arrayOver (.object C)).before args s = true) : ∃ cA, ArrOfT s cA (.object C) ∧ va_RA s cA (.object C) := by
  obtain ⟨comp, cA, kA, h1, h2, h3, h4, h5⟩ := Cond.arrayOver_spec h
  exact ⟨cA, fun N z => ⟨(fun k h => by cases h), kA, h3, comp, h4⟩, kA, comp, h3, h4, h1, h5⟩
theorem jw_K {s : State} {args : Array Value} (hts : ∀ w ∈ jt_tb, w.before args s = true) : ∃ (D : va_G) (dA : Nat → ClassId), va_K D jt_cl (jt_ty dA) s := by
  have hk : ∀ a, ∃ q : ClassId × (Nat → Nat), a < 6 → u_Kn s (jt_R a) (jt_F a) (jt_N a) q.1 q.2 := by
    intro a
    by_cases ha : a < 6
    · obtain ⟨cC, iS, h⟩ := u_known hts (jt_c6 ha).2.1 (hts _ (jt_ins ha))
      exact ⟨(cC, iS), fun _ => h⟩
    · exact ⟨(0, fun _ => 0), fun h => absurd h ha⟩
  have hA : ∀ k, ∃ cA : ClassId, ∀ ty, (jt_ty (fun _ => 0))[k - 10]? = some (0, ty) → 10 ≤ k → ArrOfT s cA ty ∧ va_RA s cA ty := by
    intro k
    have hn : ∀ ty, (jt_ty (fun _ => 0))[k - 10]? = some (0, ty) → 10 ≤ k → k < 17 := by
      intro ty h h2
      have := (List.getElem?_eq_some_iff.mp h).1
      simp [jt_ty] at this
      omega
    by_cases h10 : k = 10
    · subst h10
      obtain ⟨cA, h⟩ := jw_pa (by intro C h; cases h) (hts _ jt_w10)
      exact ⟨cA, fun ty hty _ => by cases hty; exact h⟩
    by_cases h11 : k = 11
    · subst h11
      obtain ⟨cA, h⟩ := jw_pa (by intro C h; cases h) (hts _ jt_w11)
      exact ⟨cA, fun ty hty _ => by cases hty; exact h⟩
    by_cases h12 : k = 12
    · subst h12
      obtain ⟨cA, h⟩ := jw_pa (by intro C h; cases h) (hts _ jt_w12)
      exact ⟨cA, fun ty hty _ => by cases hty; exact h⟩
    by_cases h13 : k = 13
    · subst h13
      obtain ⟨cA, h⟩ := jw_oa (hts _ (jt_an_ok (0, 9, 13) (by decide +kernel)).2.2.2)
      exact ⟨cA, fun ty hty _ => by cases hty; exact h⟩
    by_cases h14 : k = 14
    · subst h14
      obtain ⟨cA, h⟩ := jw_oa (hts _ (jt_an_ok (0, 15, 14) (by decide +kernel)).2.2.2)
      exact ⟨cA, fun ty hty _ => by cases hty; exact h⟩
    by_cases h15 : k = 15
    · subst h15
      obtain ⟨cA, h⟩ := jw_oa (hts _ (jt_an_ok (0, 21, 15) (by decide +kernel)).2.2.2)
      exact ⟨cA, fun ty hty _ => by cases hty; exact h⟩
    by_cases h16 : k = 16
    · subst h16
      obtain ⟨cA, h⟩ := jw_oa (hts _ (jt_an_ok (1, 9, 16) (by decide +kernel)).2.2.2)
      exact ⟨cA, fun ty hty _ => by cases hty; exact h⟩
    exact ⟨0, fun ty hty h2 => absurd (hn ty hty h2) (by omega)⟩
  refine ⟨(fun a => (Classical.choose (hk a)).1, fun a => (Classical.choose (hk a)).2), fun k => Classical.choose (hA k), fun c q hq => ?_, fun k q hq => ?_⟩
  · have hc : c < 6 := by
      have := (List.getElem?_eq_some_iff.mp hq).1
      simpa [jt_cl] using this
    obtain ⟨h1, -⟩ := jt_c6 hc
    cases h1.symm.trans hq
    exact Classical.choose_spec (hk c) hc
  · have hc : k < 7 := by
      have := (List.getElem?_eq_some_iff.mp hq).1
      simpa [jt_ty] using this
    have key : ∀ k, k < 7 → ∀ q, (jt_ty (fun k => Classical.choose (hA k)))[k]? = some q → ∃ ty, q = (Classical.choose (hA (k + 10)), ty) ∧ (jt_ty (fun _ => 0))[k]? = some (0, ty) := by
      intro k hk q hq
      match k, hk with
      | 0, _ => cases hq; exact ⟨_, rfl, rfl⟩
      | 1, _ => cases hq; exact ⟨_, rfl, rfl⟩
      | 2, _ => cases hq; exact ⟨_, rfl, rfl⟩
      | 3, _ => cases hq; exact ⟨_, rfl, rfl⟩
      | 4, _ => cases hq; exact ⟨_, rfl, rfl⟩
      | 5, _ => cases hq; exact ⟨_, rfl, rfl⟩
      | 6, _ => cases hq; exact ⟨_, rfl, rfl⟩
    obtain ⟨ty, rfl, h2⟩ := key k hc q hq
    exact Classical.choose_spec (hA (k + 10)) ty h2 (by omega)
theorem jw_ts : ∀ w ∈ jt_ts, w ∈ lw_tbl ∨ w ∈ flatC (Jvm.Cond.and given_1 narrow_1) := by decide +kernel
theorem jw_nc : ∀ z ∈ jt_nc, Cond.not (.castable z.1 z.2) ∈ flatC (Jvm.Cond.and given_1 narrow_1) := by decide +kernel
/-- from the entry, for every script of at most 2560 ints, the law comes to its end with true -/
theorem whole_start {p : Program} {e : Env} {s : State} {m : MethodId} {below : List Frame} {meth : Method} {c : Code} (l : Launch) (hfl : l.flags = flags0) (ha : l.admits e) {b L : Nat} {xs : Nat → Int32} (hL : L ≤ 2560) (C0 : lw_At p s m meth c b L xs) : W p l e room_1 s m #[Value.ref b] below meth c s.heap [] 0 0 (lw_Z below #[Value.ref b] s) (entryFrame m ([Value.ref b] : List Value).toArray 7) := by
  obtain ⟨hx, hb, hr, hml, hown, hts0, hX, hbl, hlk, hgv, hnm, hex⟩ := C0
  have hts : ∀ w ∈ jt_tb, w.before #[Value.ref b] s = true := fun w hw => hts0 w (List.mem_filter.mp hw).1
  have htr : ∀ e : Env, l.admits e → e.platform.stackTraces = false := fun e h => Launch.traces_off hfl h
  obtain ⟨D, dA, hK⟩ := jw_K hts
  obtain ⟨σ1, w1, hE, hn1, hn2⟩ := jw_law (L := L) (xs := xs) hL
  have hP := jm_real (b0 := s.heap.size) (sc := b) (L := L) (xs := xs) (H0 := s.heap) (D := D) (dA := dA) htr hE
  obtain ⟨ls, he, hlv⟩ := jm_entry (b0 := s.heap.size) (sc := b) (y := 101) (as := [.ref 1]) rfl (by decide) m
  have hv : ([Value.ref 1].map (jm_v s.heap.size b)).toArray = ([Value.ref b] : List Value).toArray := rfl
  rw [hv] at he
  have hfr : entryFrame m ([Value.ref b] : List Value).toArray 7 = F0 m 0 ls [] := he
  rw [hfr]
  have hT : jm_T s.heap.size b L xs s.heap D dA p e room_1 s m #[Value.ref b] meth c 12 101 := by
    refine ⟨hx, hb, hml, hr, hlk, hnm, hown, hts, hK, rfl, by decide, ⟨htr e ha, fun w hw => ?_, fun z hz => va_Nc.of (flat_of_before _ hgv _ (jw_nc z hz))⟩, ?_, hX, hbl, rfl⟩
    · have h1 : w.before #[Value.ref b] s = true := (jw_ts w hw).elim (hts0 w) (flat_of_before _ hgv w)
      simp only [jt_ts, List.mem_cons, List.not_mem_nil, or_false] at hw
      rcases hw with rfl | rfl | rfl | rfl <;> exact h1
    · rw [Array.isEmpty_iff] at hex
      rw [hex]
      rfl
  have hw := hP.2 p e room_1 s m #[Value.ref b] below meth c s.heap [] 0 0 ls 0 0 hT hlv ⟨fun k q hk => (by cases hk), rfl, fun j _ => rfl⟩ va_S.rf (fun q h => by cases h) (fun _ => rfl) rfl rfl (fun _ => Nat.le_refl _) (by show _ ≤ 0 + 601024; omega) (by show _ ≤ 0 + 7293034; omega)
  refine jm_Wm hw fun t ht => ?_
  obtain ⟨o, a1, a2, a3, a4, a5, a6, Ls, a7, a8⟩ := ht
  have ho : o = .returned (some (.int 1)) := a3
  refine ⟨o, a1, a2, ho, ⟨_, ho⟩, a6, ?_⟩
  refine (a7.weaken (fun y hy hlt => ?_) (Nat.le_refl _) (Nat.le_refl _)).mono (by show _ - 0 ≤ _; omega) (by show _ - 0 ≤ _; omega)
  exact absurd hlt (Nat.not_lt.mpr (a8 y hy).1)
set_option maxHeartbeats 4000000 in
theorem lw_walk (l : Launch) (hfl : l.flags = flags0) (b : Addr) (xs : List Int32) : MetFree l x (headSpec (Jvm.Cond.code x code maxLocals ret :: tables_1) room_1) (lw_P b xs) (fun _ _ _ _ _ => True) lw_Q := by
  refine MetFree.of_bodyS (code := code) (maxLocals := maxLocals) (ret := ret) (by decide) ?_ ?_
  · intro args s m h hn
    obtain ⟨meth, c, h1, h2, h3, h4, h5, h6, -, -⟩ := Cond.code_spec hn (atoms_spec (ws := Jvm.Cond.code x code maxLocals ret :: tables_1) h _ List.mem_cons_self)
    exact ⟨meth, c, h1, h2, h3, h4, h5, h6⟩
  · intro p e s m args below meth c s₁ B hml0 hP _
    obtain ⟨rfl, hx, hbd, hgv⟩ := hP
    obtain ⟨scr, harrAt, hlist, hof, hsmall⟩ := hx
    obtain ⟨hcb, hkn, -, -⟩ := State.arrayAt?_spec harrAt
    have hown : s.vm.findClass R_law = some m.cls := findClass_of_methodNamed B.named
    have hts0 : ∀ c ∈ (Jvm.Cond.code x code maxLocals ret :: tables_1), c.before #[Value.ref b] s = true := atoms_spec (ws := Jvm.Cond.code x code maxLocals ret :: tables_1) B.pre
    have hts : ∀ w ∈ lw_tbl, w.before #[Value.ref b] s = true := k2_hts_sels lw_privs (fun w hw => hts0 w (List.mem_cons_of_mem _ hw)) lw_privs_ok
    have hml : c.maxLocals = 7 := B.maxLocals_eq (hts0 _ List.mem_cons_self)
    have X₀ : Stand p l e room_1 s m #[Value.ref b] below meth c s₁ [] 0 0 := Stand.of_body B
    have hh0 : s₁.heap = s.heap := by rw [B.state]; rfl
    have hsz : scr.slots.size = xs.length := by rw [← Array.length_toList, hlist, List.length_map]
    have hval : ∀ j : Nat, j < xs.length → scr.slots[j]? = some (.int (xs.getD j 0)) := fun j hj => by
      rw [← Array.getElem?_toList, hlist]
      simp [hj]
    have hbl : b < s.heap.size := (Array.getElem?_eq_some_iff.mp hcb).1
    have hX : va_X b xs.length (fun j => xs.getD j 0) s s.heap := ⟨scr, hcb, hof, hkn, hsz, hval⟩
    have hemp : c.exceptionTable.isEmpty = true := by
      obtain ⟨meth', c', k1, k2, -, -, -, -, k7, -⟩ := Cond.code_spec B.named (hts0 _ List.mem_cons_self)
      have hcode := B.here.code
      rw [State.code?_eq] at hcode
      have hvm : s₁.vm = s.vm := by rw [B.state]; rfl
      rw [hvm, k1] at hcode
      simp only [Option.bind_some, k2] at hcode
      rw [← Option.some.inj hcode]
      exact k7
    have K : W p l e room_1 s m #[Value.ref b] below meth c s₁.heap [] 0 0 (lw_Z below #[Value.ref b] s) (entryFrame m ([Value.ref b] : List Value).toArray 7) := by
      rw [hh0]
      exact whole_start l hfl B.admits hbd ⟨B.exec, B.bytes, B.returns, hml, hown, hts, hX, hbl, B.notSynchronized, hgv, (name_of_methodNamed B.named B.method).1, hemp⟩
    obtain ⟨t, a1, o, b1, b2, b3⟩ := K s₁ rfl X₀
    exact ⟨t, o, a1, b1, b2, b3⟩
theorem lw_pre_spec {args : Array Value} {s : State} (h : (Jvm.Cond.and given_1 narrow_1).before args s = true) (hr : rest_1_c.before args s = true) : ∃ (b : Addr) (xs : List Int32), lw_P b xs args s := by
  have hs := flat_of_before _ h
  have hq := flat_of_before _ hr
  have hc : (Cond.count 1).before args s = true := hs _ (by decide +kernel)
  have harr : (Cond.arrayOf (.arg 0) .int).before args s = true := hs _ (by decide +kernel)
  have hle : (Cond.le (.length (.arg 0)) (.int 2560)).before args s = true := hs _ (by decide +kernel)
  have hlen : (Cond.isInt (.length (.arg 0))).before args s = true := hq _ (by decide +kernel)
  have hall : (Cond.all (.arg 0) (.isInt (.elem (.arg 0) (.index 0)))).before args s = true := hq _ (by decide +kernel)
  obtain ⟨b, xs, hb, hx⟩ := State.ints_of_pre rfl harr hlen hall
  have hsm : xs.length < 2 ^ 31 := hx.choose_spec.2.2.2
  have hev : (Term.length (.arg 0)).eval args s none [] s = some (.int xs.length.toInt32) := hx.length_eval hb
  have hv := Cond.le_ints hev (show (Term.int 2560).eval args s none [] s = some (.int 2560) from rfl)
  have hd : xs.length.toInt32 ≤ 2560 := by
    simpa [Cond.before, Cond.holds, hv] using hle
  have hN : xs.length ≤ 2560 := (Int32.ofNat_le_ofNat hsm (by decide)).mp (show Int32.ofNat xs.length ≤ Int32.ofNat 2560 from hd)
  exact ⟨b, xs, Cond.one_arg hc (show args[0]? = some (.ref b) from hb), hx, hN, h⟩
theorem lw_comes (l : Launch) (hfl : l.flags = flags0) : Comes l x (Jvm.Cond.code x code maxLocals ret :: tables_1) room_1 (fun tb e args s => Calls_1 tb e args s ∧ rest_1 tb e args s ∧ Pre_1 tb e args s)
    (fun _ _ args s o t => lw_Q args s o t) := by
  intro p e ha hc hk s m args below hf hfit hheap happ hpre
  obtain ⟨b, xs, hP⟩ := lw_pre_spec hpre.2.2 hpre.2.1
  obtain ⟨k, o, h1, h2, h3, hQ⟩ := lw_walk l hfl b xs p e ha hc hk s m args below hf ((Spec.applies_iff_loose hf).mp happ).1 hP trivial
  exact ⟨k, o, h1, h2, h3, hQ⟩
theorem lw_frame {s t : State} {o : Outcome} {args : Array Value} (h : Framed s o t [] 601024 7293034) :
    Framed s o t (fieldLocs frame_1_writes args s ++ arrayLocs frame_1_arrays args s ++ staticLocs frame_1_statics s) 601024 7293034 := h
theorem lw_limb (L : Cond) (hL : ∀ (args : Array Value) (s t : State), L.after args s (.returned (some (.int 1))) t = true) :
    ArmFor flags0 classFile x code maxLocals ret World_1 tables_1 room_1 Calls_1 rest_1 Pre_1
      (fun tb e a s o t => postC L tb e a s o t ∧ Framed s o t (fieldLocs frame_1_writes a s ++ arrayLocs frame_1_arrays a s ++ staticLocs frame_1_statics s) 601024 7293034) := by
  intro l hfl _ _ p e ha hc hk s m args below hf hfit hheap happ hpre
  obtain ⟨k, o, h1, h2, h3, rfl, hF⟩ := lw_comes l hfl p e ha hc hk s m args below hf hfit hheap happ hpre
  exact ⟨k, _, h1, h2, h3, hL args s _, lw_frame hF⟩
theorem i_vc : Claimed_1_1 ∧ Claimed_1_2 := ⟨lw_limb limb_1_1 (fun args s t => by simp [limb_1_1, Cond.after, Cond.holds, Cond.value]), lw_limb limb_1_2 (fun args s t => Cond.after_iff.mpr (by
  first | (rw [show limb_1_2 = Cond.eq .result (.int 1) from rfl, Cond.eq_ints (x := 1) (y := 1) rfl rfl]; simp; done) | (simp [limb_1_2, Cond.value, Term.eval]; done)))⟩
