/-! the two kinds of calls that may throw -/
def jm_TH (l : Launch) (b0 sc L : Nat) (xs : Nat → Int32) (H0 : Heap) (D : va_G) (dA : Nat → ClassId) (p : Program) (e : Env) (R : Room) (s : State) (m : MethodId) (args : Array Value) (below : List Frame) (meth : Method) (c : Code) (T : State) (locs : List Loc) (cells slots : Nat) (ls : Array Slot) (pc : Nat) (sv rv : List Value) (E : Nat) (σ σ1 : jm_S) (w1 : Bool) : Prop :=
  ∃ (x : Addr) (cell : Cell) (Ls : List Loc) (T' : State), Stand p l e R s m args below meth c T' (locs ++ Ls) (cells + (jm_nc σ1 - jm_nc σ)) (slots + (jm_ns σ1 - jm_ns σ)) ∧ (∀ q ∈ Ls, b0 ≤ q.base ∧ w1 = true) ∧ T'.heap[x]? = some cell ∧ s.vm.findClass (jt_xn E) = some cell.cls ∧ cell.vm = .none ∧ (∃ k : Class, s.vm.classes[cell.cls]? = some k) ∧ jm_wd b0 sc L xs D dA σ1 T'.heap ∧ (∀ q, q < b0 → T'.heap[q]? = H0[q]?) ∧
    ∀ tg, Steps p.tables e below ((T'.setTop (F0 m pc ls rv)).pushFrame (.throwing x)) tg → Steps p.tables e below (T.setTop (F0 m pc ls sv)) tg
section
variable {l : Launch} {b0 sc L : Nat} {xs : Nat → Int32} {H0 : Heap} {D : va_G} {dA : Nat → ClassId} {d mi pc nx a b y E : Nat} {cv : Int32} {tl : List Nat} {st as rest : List Value} {w1 : Bool} {σ σ1 : jm_S} {q : Prop}
  {p : Program} {e : Env} {R : Room} {s : State} {m : MethodId} {args : Array Value} {below : List Frame} {meth : Method} {c : Code} {T : State} {locs : List Loc} {cells slots : Nat} {ls : Array Slot}
theorem jw_virtual {idx : Nat} (hl : ∀ e : Env, l.admits e → e.platform.stackTraces = false) (hd : decode (jt_by mi) pc = .ok (.invokevirtual idx, nx - pc)) (hg : jm_gi mi pc nx a b cv tl (.invokevirtual idx) = true) (h : jm_kx st σ a b tl (.invokevirtual idx) = some (y, as, rest, q)) (hc1 : jm_c1 as = true) (hn1 : as.length ≤ jt_ml y) (hq : q)
    (hPa : jm_PP l b0 sc L xs H0 D dA d y 0 (jm_en y as) [] false σ (.inr E) σ1 w1) (X : Stand p l e R s m args below meth c T locs cells slots) (hT : jm_T b0 sc L xs H0 D dA p e R s m args meth c (d + 1) mi) (hls : ls.size = jt_ml mi) (hwd : jm_wd b0 sc L xs D dA σ T.heap) (hS : va_S (fun q => b0 ≤ q) H0 T.heap locs) (hsz : σ.2.2.2.2.2.2 = 0 → T.heap.size ≤ b0 + jm_nc σ) (hf : cells + (jm_nc σ1 - jm_nc σ) ≤ R.cells ∧ slots + (jm_ns σ1 - jm_ns σ) ≤ R.slots) :
    jm_TH l b0 sc L xs H0 D dA p e R s m args below meth c T locs cells slots ls pc (st.map (jm_v b0 sc)) (rest.map (jm_v b0 sc)) E σ σ1 w1 := by
  simp only [jm_gi, Bool.and_eq_true, beq_iff_eq, jt_ck, decide_eq_true_eq] at hg
  obtain ⟨rfl, hy, hcv⟩ := hg
  rw [Nat.add_sub_cancel_left] at hd
  simp only [jm_kx] at h
  split at h
  · rename_i q0 r0 hdrop
    cases h
    obtain ⟨hcat, hok⟩ := hq
    obtain ⟨⟨-, hml7, hpl, hm1, hm2, hdesc⟩, hini⟩ := jt_y_ok _ hy
    replace hml7 : jt_ml a ≤ 17 := hml7
    obtain ⟨hlk, hins, hsel, hcls, ht6, hyc⟩ := jt_cv_ok _ hcv
    replace ht6 : tl.getD 0 0 < 6 := ht6
    obtain ⟨hhh, -, hcw⟩ := jt_yc_ok _ hyc
    obtain ⟨hcl, -⟩ := jt_c6 ht6
    have hq0 : q0 ≠ 0 := fun z => by have h1 := hok.1; rw [z] at h1; exact absurd h1 (by decide)
    have hbl : b ≤ st.length := by
      rcases Nat.lt_or_ge b st.length with h | h
      · omega
      · rw [List.drop_eq_nil_of_le h] at hdrop; cases hdrop
    have hown := hT.2.2.2.2.2.2.1
    rw [← jt_on] at hown
    have hts := hT.2.2.2.2.2.2.2.1
    have hat := jm_ws_at (b0 := b0) (sc := sc) (dA := dA) hok.1 hok.2.1
    rw [jm_e_obj hok.2.2 (by omega)] at hat
    obtain ⟨cellB, hcellB, hobj, hclsB⟩ := va_recv hT.2.2.2.2.2.2.2.2.1 hwd.1 hcl hat
    have hlen : (((st.take b).reverse).map (jm_v b0 sc)).length = b := by simp; omega
    have hstack : (F0 m pc ls (st.map (jm_v b0 sc))).stack = (((st.take b).reverse).map (jm_v b0 sc)).reverse ++ .ref (jm_ad b0 sc q0) :: rest.map (jm_v b0 sc) := jm_mapr hdrop hq0
    obtain ⟨mk, methM, hnamed, hmethM, hstM, habM⟩ := Cond.instanceMethod_spec (hts _ hins)
    obtain ⟨methM', cM, hmethM', -, -, -, -, -, -, hsigM⟩ := Cond.code_spec hnamed (hts _ hcw)
    cases hmethM.symm.trans hmethM'
    obtain ⟨c2, r2, m2, q1, q2, q3, q4, kP, hkP, hkPi⟩ := Cond.selects_spec (hts _ hsel)
    cases hclsB.symm.trans q1
    cases (State.methodFound?_of_named hnamed ⟨hm1, hm2⟩).symm.trans q2
    cases hnamed.symm.trans q3
    have hselP : selectMethod e.platform s.vm cellB.cls mk = .method mk := by rw [Launch.admits_selectMethod X.admits]; exact q4
    have hargn : (((st.take b).reverse).map (jm_v b0 sc)).length = methM.sig.parameters.length := by
      rw [hsigM] at hdesc
      exact hlen.trans (Option.some.inj hdesc).symm
    have key : ∀ vm₁, Stand p l e R s m args below meth c (T.setVm vm₁) locs cells slots → (∀ target, (∀ acts, Steps p.tables e below (doInvoke e ((T.setVm vm₁).setTop { F0 m pc ls (st.map (jm_v b0 sc)) with stack := rest.map (jm_v b0 sc) }) acts mk (.ref (jm_ad b0 sc q0) :: ((st.take b).reverse).map (jm_v b0 sc)).toArray).1 target) → Steps p.tables e below (T.setTop (F0 m pc ls (st.map (jm_v b0 sc)))) target) →
        jm_TH l b0 sc L xs H0 D dA p e R s m args below meth c T locs cells slots ls pc (st.map (jm_v b0 sc)) (rest.map (jm_v b0 sc)) E σ σ1 w1 := by
      intro vm₁ X₁ hstep
      obtain ⟨x, cell, Ls, T', X', hL, g1, g2, g3, g4, gw, glow, stp⟩ := jm_thrown hl hPa hc1 hn1 hml7 hpl hhh hcw hini X₁ hT hwd hS hsz hls hd (by rw [jm_catm]; exact hcat) (rs := rest.map (jm_v b0 sc)) hnamed hf
      refine ⟨x, cell, Ls, T', X', hL, g1, g2, g3, g4, gw, glow, fun tg r => hstep tg fun acts => ?_⟩
      rw [doInvoke_state]
      refine Steps.trans ?_ r
      have e1 : (Value.ref (jm_ad b0 sc q0) :: ((st.take b).reverse).map (jm_v b0 sc)) = (Value.ref q0 :: (st.take b).reverse).map (jm_v b0 sc) := by rw [List.map_cons, jm_v_r hq0]
      rw [e1]
      exact stp
    rcases hlk with hlk | hlk
    · obtain ⟨vm₁, X₁, hstep⟩ := X.invokevirtual hT.1 hown (hts _ hlk) hnamed hmethM hstM hkP hkPi ⟨hm1, hm2⟩ (a := jm_ad b0 sc q0) (cell := cellB) hcellB (fun z h => by rw [h] at hobj; cases hobj) hselP hmethM habM hkP hkPi (g := F0 m pc ls (st.map (jm_v b0 sc))) rfl hargn hstack (by rw [hT.2.1]; exact hd)
      exact key vm₁ X₁ hstep
    · obtain ⟨vm₁, X₁, hstep⟩ := X.invokevirtualNest hT.1 hown (hts _ hlk) hnamed hmethM hstM hkP hkPi ⟨hm1, hm2⟩ (a := jm_ad b0 sc q0) (cell := cellB) hcellB (fun z h => by rw [h] at hobj; cases hobj) hselP hmethM habM hkP hkPi (g := F0 m pc ls (st.map (jm_v b0 sc))) rfl hargn hstack (by rw [hT.2.1]; exact hd)
      exact key vm₁ X₁ hstep
  · cases h
theorem jw_static {idx : Nat} (hl : ∀ e : Env, l.admits e → e.platform.stackTraces = false) (hd : decode (jt_by mi) pc = .ok (.invokestatic idx, nx - pc)) (hg : jm_gi mi pc nx a b cv tl (.invokestatic idx) = true) (h : jm_kx st σ a b tl (.invokestatic idx) = some (y, as, rest, q)) (hc1 : jm_c1 as = true) (hn1 : as.length ≤ jt_ml y) (hq : q) (hyh : jt_hh y = [])
    (hPa : jm_PP l b0 sc L xs H0 D dA d y 0 (jm_en y as) [] false σ (.inr E) σ1 w1) (X : Stand p l e R s m args below meth c T locs cells slots) (hT : jm_T b0 sc L xs H0 D dA p e R s m args meth c (d + 1) mi) (hls : ls.size = jt_ml mi) (hwd : jm_wd b0 sc L xs D dA σ T.heap) (hS : va_S (fun q => b0 ≤ q) H0 T.heap locs) (hsz : σ.2.2.2.2.2.2 = 0 → T.heap.size ≤ b0 + jm_nc σ) (hf : cells + (jm_nc σ1 - jm_nc σ) ≤ R.cells ∧ slots + (jm_ns σ1 - jm_ns σ) ≤ R.slots) :
    jm_TH l b0 sc L xs H0 D dA p e R s m args below meth c T locs cells slots ls pc (st.map (jm_v b0 sc)) (rest.map (jm_v b0 sc)) E σ σ1 w1 := by
  simp only [jm_gi, Bool.and_eq_true, beq_iff_eq, jt_ck, decide_eq_true_eq] at hg
  obtain ⟨rfl, hy, hcs⟩ := hg
  rw [Nat.add_sub_cancel_left] at hd
  simp only [jm_kx] at h
  cases h
  obtain ⟨hcat, hbl⟩ := hq
  obtain ⟨⟨-, hml7, hpl, hm1, hm2, hdesc⟩, hini⟩ := jt_y_ok _ hy
  replace hml7 : jt_ml a ≤ 17 := hml7
  obtain ⟨hlk, hstt, hyy⟩ := jt_cs_ok _ hcs
  have hyc : a ∈ jt_yc := by
    rcases hyy with h | ⟨h, -⟩
    · exact h
    · exact absurd hyh (jt_ywn a h)
  obtain ⟨hhh, -, hcw⟩ := jt_yc_ok _ hyc
  have hown := hT.2.2.2.2.2.2.1
  rw [← jt_on] at hown
  have hts := hT.2.2.2.2.2.2.2.1
  have hlen : (((st.take b).reverse).map (jm_v b0 sc)).length = b := by simp; omega
  have hstack : (F0 m pc ls (st.map (jm_v b0 sc))).stack = (((st.take b).reverse).map (jm_v b0 sc)).reverse ++ (st.drop b).map (jm_v b0 sc) := jm_maps
  obtain ⟨mk, hnamed⟩ := Cond.code_named (hts _ hcw)
  obtain ⟨methM, cM, hmethM, -, -, -, -, -, -, hsigM⟩ := Cond.code_spec hnamed (hts _ hcw)
  have hstatic : methM.isStatic = true := Cond.static_spec hnamed hmethM (hts _ hstt)
  obtain ⟨kP, hkP, -⟩ := className_of_methodNamed hnamed
  have hinitP : kP.init = .initialized := Cond.initialized_spec (findClass_of_methodNamed hnamed) hkP (hts _ hini)
  have hargn : (((st.take b).reverse).map (jm_v b0 sc)).length = methM.sig.parameters.length := by
    rw [hsigM] at hdesc
    exact hlen.trans (Option.some.inj hdesc).symm
  have key : ∀ vm₁, Stand p l e R s m args below meth c (T.setVm vm₁) locs cells slots → (∀ target, (∀ acts, Steps p.tables e below (doInvoke e ((T.setVm vm₁).setTop { F0 m pc ls (st.map (jm_v b0 sc)) with stack := (st.drop b).map (jm_v b0 sc) }) acts mk (((st.take b).reverse).map (jm_v b0 sc)).toArray).1 target) → Steps p.tables e below (T.setTop (F0 m pc ls (st.map (jm_v b0 sc)))) target) →
      jm_TH l b0 sc L xs H0 D dA p e R s m args below meth c T locs cells slots ls pc (st.map (jm_v b0 sc)) ((st.drop b).map (jm_v b0 sc)) E σ σ1 w1 := by
    intro vm₁ X₁ hstep
    obtain ⟨x, cell, Ls, T', X', hL, g1, g2, g3, g4, gw, glow, stp⟩ := jm_thrown hl hPa hc1 hn1 hml7 hpl hhh hcw hini X₁ hT hwd hS hsz hls hd (by rw [jm_catm]; exact hcat) (rs := (st.drop b).map (jm_v b0 sc)) hnamed hf
    refine ⟨x, cell, Ls, T', X', hL, g1, g2, g3, g4, gw, glow, fun tg r => hstep tg fun acts => ?_⟩
    rw [doInvoke_state]
    exact Steps.trans stp r
  rcases hlk with hlk | hlk
  · obtain ⟨vm₁, X₁, hstep⟩ := X.invokestatic hT.1 hown (hts _ hlk) hnamed hmethM hstatic hkP hinitP ⟨hm1, hm2⟩ (g := F0 m pc ls (st.map (jm_v b0 sc))) rfl hargn hstack (by rw [hT.2.1]; exact hd)
    exact key vm₁ X₁ hstep
  · obtain ⟨vm₁, X₁, hstep⟩ := X.invokestaticNest hT.1 hown (hts _ hlk) hnamed hmethM hstatic hkP hinitP ⟨hm1, hm2⟩ (g := F0 m pc ls (st.map (jm_v b0 sc))) rfl hargn hstack (by rw [hT.2.1]; exact hd)
    exact key vm₁ X₁ hstep
end
