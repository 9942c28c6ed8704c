/-! static calls: of a plain method, and of one that catches -/
section
variable {l : Launch} {b0 sc L : Nat} {xs : Nat → Int32} {H0 : Heap} {D : va_G} {dA : Nat → ClassId} {d mi pc nx a b y : Nat} {cv : Int32} {tl : List Nat} {al : List (Option Value)} {st as rest : List Value} {w w1 w2 : Bool} {σ σ1 σ2 : jm_S} {out : Option Value ⊕ Nat} {v : Option Value} {q : Prop}
theorem jm_metW (hl : ∀ e : Env, l.admits e → e.platform.stackTraces = false) (hP : jm_PP l b0 sc L xs H0 D dA d y 0 (jm_en y as) [] false σ (.inl v) σ1 w1) (hc : jm_c1 as = true) (hn : as.length ≤ jt_ml y) (hpl : plainFor (jt_nm y) = true) :
    Met l (jt_nm y) [Cond.codeWith (jt_nm y) (jt_by y) (jt_ml y) (jt_rt y) (jt_hh y)] (jm_rm d (jm_nc σ1 - jm_nc σ) (jm_ns σ1 - jm_ns σ)) (jm_Pc b0 sc L xs H0 D dA σ as) (jm_Qc b0 sc L xs H0 D dA (.inl v) σ1) (jm_nc σ1 - jm_nc σ) (jm_ns σ1 - jm_ns σ) (fun q => b0 ≤ q ∧ w1 = true) := by
  refine MetFree.of_bodySF (code := jt_by y) (maxLocals := jt_ml y) (ret := jt_rt y) hpl ?_ ?_
  · intro args s m h hn'
    obtain ⟨m9, meth, c, hn9, h1, h2, h3, h4, -, h5, h6, -⟩ := Cond.codeWith_spec (atoms_spec (ws := [Cond.codeWith (jt_nm y) (jt_by y) (jt_ml y) (jt_rt y) (jt_hh y)]) h _ List.mem_cons_self)
    cases hn'.symm.trans hn9
    exact ⟨meth, c, h1, h2, h3, h4, h5, h6⟩
  intro p e s m args below meth c s₁ B hml hp _
  have hcw := atoms_spec (ws := [Cond.codeWith (jt_nm y) (jt_by y) (jt_ml y) (jt_rt y) (jt_hh y)]) B.pre _ List.mem_cons_self
  obtain ⟨m', meth', c', k0, k1, k2, -, -, k5, -, -, -⟩ := Cond.codeWith_spec hcw
  cases B.named.symm.trans k0
  have hc' : c' = c := by
    have hcode := B.here.code
    rw [State.code?_eq] at hcode
    have hvm : s₁.vm = s.vm := by rw [B.state]; rfl
    rw [hvm, k1] at hcode
    simp only [Option.bind_some, k2] at hcode
    exact Option.some.inj hcode
  subst hc'
  have hh0 : s₁.heap = s.heap := by rw [B.state]; rfl
  obtain ⟨t, a0, o, a1, a2, a3, a4, a5, a6, Ls, a7, a8⟩ := jm_body hl hP hc hn B hml rfl k5 hp s₁ hh0 (Stand.of_body B)
  have ho : o = .returned (v.map (jm_v b0 sc)) := a3
  exact ⟨t, o, a0, a1, a2, ⟨a3, a4, a5, a6⟩, Ls, ⟨⟨_, ho⟩, a6, a7⟩, a8⟩
theorem jm_runSW {p : Program} {e : Env} {R : Room} {s : State} {m : MethodId} {args : Array Value} {below : List Frame} {meth : Method} {c : Code} {H : Heap} {locs : List Loc} {cells slots : Nat} {cc : ByteArray} {nL idx n mc ms : Nat} {own : String} {x : MethodName} {bytes : ByteArray} {maxL : Nat} {ret : Option FieldType} {hh : List (Nat × Nat × Nat × Nat)} {rm : Room} {Pc : Array Value → State → Prop} {Qc : Array Value → State → Outcome → State → Prop} {free : Addr → Prop} {Ts : List Cond} {As rs : List Value} {g : JFrame}
    (S : CallFix p m c cc nL s args Ts own) (hM : Met l x [Cond.codeWith x bytes maxL ret hh] rm Pc Qc mc ms free) (hrc : rm.cells = mc) (hrs : rm.slots = ms) (hfr : rm.frames + 1 ≤ R.frames) (hlo : 8 + (maxL + 11) + rm.locals ≤ R.locals)
    (hcw : (Cond.codeWith x bytes maxL ret hh).before args s = true) (hini : (Cond.initialized x.cls).before args s = true) (hst : (Cond.static x).before args s = true) (hlk : (Cond.methodLink own idx x).before args s = true) (hx : x.cls ≠ "java/lang/invoke/MethodHandle" ∧ x.cls ≠ "java/lang/invoke/VarHandle") (hdesc : (parseMethodDescriptor x.desc).map (fun d => d.parameters.length) = some n)
    (hp : PreS s H Pc As) (hg : g.method = m) (hn : As.length = n) (hsize : g.locals.size = nL) (hstack : g.stack = As.reverse ++ rs) (hW : 2 * g.monitorRoom + (rs.map fun v => v.category).sum ≤ 8) (hdg : decode cc g.pc = .ok (.invokestatic idx, 3)) (hf : cells + mc ≤ R.cells ∧ slots + ms ≤ R.slots) :
    va_Run p l e R s m args below meth c H locs cells slots mc ms g rs (Qc As.toArray) free := by
  have hK : Back l R p e below s args x 3 8 (PreOf R mc ms Pc) (PostOf Qc mc ms free) := va_backW (hh := hh) (bytes := bytes) (maxL := maxL) (ret := ret) hM hp.1 hrc hrs hfr hlo (fun w hw a' U hW => by
      rw [List.mem_singleton] at hw
      subst hw
      exact word_at hW (Or.inl rfl) hcw) (List.mem_singleton.mpr rfl) (fun a' U hW => word_at hW (Or.inl rfl) hini)
  obtain ⟨hx1, hb, hml, ho, -⟩ := S
  obtain ⟨m', meth', c', k0, k1, -, -, -, -, -, -, k8⟩ := Cond.codeWith_spec hcw
  intro T hT X
  obtain ⟨v', vm₁, ⟨U', l2, c2, s2⟩, hW₁, X', ⟨g', mk, t, Ls, e1, e2, hq, h1, hL, h2, h3⟩, stp⟩ := X.staticBack hx1 ho hlk hst hini k0 k1 k8 hx hK hg (hsize.trans hml.symm) (Steps.refl _) (argsL := As) (rest := rs) (fun sig h => by
      rw [h] at hdesc
      exact hn.trans (Option.some.inj hdesc).symm) hstack hW (by rw [hb]; exact hdg) (fun vm₁ hW₁ => ⟨hf.1, hf.2, hp.2 (T.setVm vm₁) hT hW₁⟩)
  dsimp only [Pt.U, Pt.locs, Pt.cells, Pt.slots] at X' e1 e2 h1 h2 h3 stp
  subst h1; subst h2; subst h3
  exact ⟨v', (T.setVm vm₁).calling g' mk As.toArray, t, U', Ls, hT, X', hL, e1, e2, hq, fun tg r => stp.trans r⟩
theorem jz_static {idx : Nat} (hl : ∀ e : Env, l.admits e → e.platform.stackTraces = false) (hd : decode (jt_by mi) pc = .ok (.invokestatic idx, nx - pc)) (hg : jm_gi mi pc nx a b cv tl (.invokestatic idx) = true) (h : jm_kx st σ a b tl (.invokestatic idx) = some (y, as, rest, q)) (hc1 : jm_c1 as = true) (hn1 : as.length ≤ jt_ml y) (hq : q)
    (hPa : jm_PP l b0 sc L xs H0 D dA d y 0 (jm_en y as) [] false σ (.inl v) σ1 w1) (hP2 : jm_PP l b0 sc L xs H0 D dA (d + 1) mi nx al (v.toList ++ rest) (w || w1) σ1 out σ2 w2) : jm_PP l b0 sc L xs H0 D dA (d + 1) mi pc al st w σ out σ2 w2 := by
  simp only [jm_gi, Bool.and_eq_true, beq_iff_eq, jt_ck, decide_eq_true_eq] at hg
  obtain ⟨rfl, hy, hcs⟩ := hg
  rw [Nat.add_sub_cancel_left] at hd
  simp only [jm_kx] at h
  cases h
  obtain ⟨hcat, hbl⟩ := hq
  obtain ⟨⟨-, hml7, hpl, hm1, hm2, hdesc⟩, hini⟩ := jt_y_ok _ hy
  replace hml7 : jt_ml a ≤ 17 := hml7
  obtain ⟨hlk, hstt, hyy⟩ := jt_cs_ok _ hcs
  refine ⟨⟨Nat.le_trans hPa.1.1 hP2.1.1, Nat.le_trans hPa.1.2.1 hP2.1.2.1, fun z => hPa.1.2.2.1 (hP2.1.2.2.1 z), jm_or hPa.1.2.2.2 hP2.1.2.2.2⟩, fun p e R s m args below meth c H locs cells slots ls c0 s0 hT hlv hwd hS hw hw0 hc hs hz h1 h2 T hT1 X => ?_⟩
  have hsz : σ.2.2.2.2.2.2 = 0 → H.size ≤ b0 + jm_nc σ := fun z => by
    have k1 := X.heapSize
    have k2 := hz z
    rw [hT1] at k1
    omega
  have hown := hT.2.2.2.2.2.2.1
  rw [← jt_on] at hown
  have hts := hT.2.2.2.2.2.2.2.1
  have hR : (jm_rm d (jm_nc σ1 - jm_nc σ) (jm_ns σ1 - jm_ns σ)).frames + 1 ≤ R.frames ∧ 8 + (jt_ml a + 11) + (jm_rm d (jm_nc σ1 - jm_nc σ) (jm_ns σ1 - jm_ns σ)).locals ≤ R.locals := by
    have k1 := hT.2.2.2.2.2.2.2.2.2.1
    have k2 := hT.2.2.2.2.2.2.2.2.2.2.1
    exact ⟨by show d + 1 ≤ _; omega, by show _ + (36 * d) ≤ _; omega⟩
  have hf : cells + (jm_nc σ1 - jm_nc σ) ≤ R.cells ∧ slots + (jm_ns σ1 - jm_ns σ) ≤ R.slots := by
    have k1 := hPa.1
    have k2 := hP2.1
    constructor <;> omega
  have hPre : PreS s H (jm_Pc b0 sc L xs H0 D dA σ (st.take b).reverse) (((st.take b).reverse).map (jm_v b0 sc)) :=
    ⟨jm_blind b0 sc L xs H0 D dA σ _, fun U hU hW => jm_pre hT hwd hS rfl hU hW hsz⟩
  have hlen : (((st.take b).reverse).map (jm_v b0 sc)).length = b := by simp; omega
  have hstack : (F0 m pc ls (st.map (jm_v b0 sc))).stack = (((st.take b).reverse).map (jm_v b0 sc)).reverse ++ (st.drop b).map (jm_v b0 sc) := jm_maps
  have hroom : 2 * (F0 m pc ls (st.map (jm_v b0 sc))).monitorRoom + (((st.drop b).map (jm_v b0 sc)).map fun v => v.category).sum ≤ 8 := lv_room (by rw [jm_catm]; exact hcat)
  have Sx : CallFix p m c (jt_by mi) (jt_ml mi) s args jt_tb (jt_cn (jt_oc mi)) := ⟨hT.1, hT.2.1, hT.2.2.1, hown, hts⟩
  rcases hyy with hyc | ⟨hyw, hlk0⟩
  · obtain ⟨hhh, -, hcw⟩ := jt_yc_ok _ hyc
    have hM := jm_met hl hPa hc1 hn1 hpl hhh
    rcases hlk with hlk | hlk
    · exact jm_back (va_runS Sx hM ⟨callB_of b hts (jt_goodc hcw) rfl rfl rfl (hts _ hini) (hts _ hlk) ⟨hm1, hm2, hdesc⟩ hR, hts _ hstt⟩ hPre rfl hlen hlv.1 hstack hroom hd hf) hP2 hPa.1 hT hlv hS hw hw0 hc hs hz h1 h2 T hT1 X
    · exact jm_back (va_runSN Sx hM ⟨va_cnB b hts (jt_goodc hcw) rfl rfl rfl (va_tabs rfl rfl (hts _ hlk)) (hts _ hini) ⟨hm1, hm2, hdesc⟩ hR, hts _ hstt, trivial⟩ hPre rfl hlen hlv.1 hstack hroom hd hf) hP2 hPa.1 hT hlv hS hw hw0 hc hs hz h1 h2 T hT1 X
  · obtain ⟨hcw, -⟩ := jt_yw_ok _ hyw
    have hM := jm_metW hl hPa hc1 hn1 hpl
    exact jm_back (jm_runSW Sx hM rfl rfl hR.1 hR.2 (hts _ hcw) (hts _ hini) (hts _ hstt) (hts _ hlk0) ⟨hm1, hm2⟩ hdesc hPre rfl hlen hlv.1 hstack hroom hd hf) hP2 hPa.1 hT hlv hS hw hw0 hc hs hz h1 h2 T hT1 X
end
