/-! the rules of throws, and the whole -/
section
variable {l : Launch} {b0 sc L : Nat} {xs : Nat → Int32} {H0 : Heap} {D : va_G} {dA : Nat → ClassId}
theorem jm_site (hl : ∀ e : Env, l.admits e → e.platform.stackTraces = false) {d' mi pc y nx a' b E : Nat} {al : List (Option Value)} {st as rest : List Value} {w w1 : Bool} {σ σ1 : jm_S} {ins : Instr} {cv : Int32} {tl : List Nat} {q : Prop} (hrow : jm_at mi pc = some (ins, nx, a', b, cv, tl)) (hk : jm_kx st σ a' b tl ins = some (y, as, rest, q)) (hc1 : jm_c1 as = true) (hn1 : as.length ≤ jt_ml y) (hq : q) (hPa : jm_PP l b0 sc L xs H0 D dA d' y 0 (jm_en y as) [] false σ (.inr E) σ1 w1) (hvs : jm_vs (d' + 1, mi, pc, al, st, w, σ) = true) (hya : jt_hh y = [])
    {p : Program} {e : Env} {R : Room} {s : State} {m : MethodId} {args : Array Value} {below : List Frame} {meth : Method} {c : Code} {T : State} {locs : List Loc} {cells slots c0 s0 : Nat} {ls : Array Slot} (X : Stand p l e R s m args below meth c T locs cells slots)
    (hT : jm_T b0 sc L xs H0 D dA p e R s m args meth c (d' + 1) mi) (hlv : ls.size = jt_ml mi) (hwd : jm_wd b0 sc L xs D dA σ T.heap) (hS : va_S (fun q => b0 ≤ q) H0 T.heap locs) (hc : cells + c0 = jm_nc σ) (hs : slots + s0 = jm_ns σ) (hz : σ.2.2.2.2.2.2 = 0 → s.heap.size ≤ b0 + c0) (h1 : jm_nc σ1 ≤ c0 + R.cells) (h2 : jm_ns σ1 ≤ s0 + R.slots) :
    jm_TH l b0 sc L xs H0 D dA p e R s m args below meth c T locs cells slots ls pc (st.map (jm_v b0 sc)) (rest.map (jm_v b0 sc)) E σ σ1 w1 := by
  obtain ⟨hd, hg⟩ := jt_good hrow
  have hsz : σ.2.2.2.2.2.2 = 0 → T.heap.size ≤ b0 + jm_nc σ := fun z => by
    have k1 := X.heapSize
    have k2 := hz z
    omega
  have h01 := hPa.1
  have hf : cells + (jm_nc σ1 - jm_nc σ) ≤ R.cells ∧ slots + (jm_ns σ1 - jm_ns σ) ≤ R.slots := by
    constructor <;> omega
  unfold jm_vs at hvs
  simp only [hrow] at hvs
  cases ins with
  | invokevirtual idx => exact jw_virtual hl hd hg hk hc1 hn1 hq hPa X hT hlv hwd hS hsz hf
  | invokestatic idx => exact jw_static hl hd hg hk hc1 hn1 hq hya hPa X hT hlv hwd hS hsz hf
  | _ => cases hvs
theorem jm_sem_thr (hl : ∀ e : Env, l.admits e → e.platform.stackTraces = false) : ∀ (c a : jm_Cf) (nx : Nat) (rest : List Value) (q : Prop) (E : Nat) (σ : jm_S) (w : Bool), jm_call c = some (a, nx, rest, q) → q → jm_P l b0 sc L xs H0 D dA a (.inr E, σ, w) → jm_vs c = true → jt_hh (jm_mi a) = [] → jt_hh (jm_mi c) = [] → jm_P l b0 sc L xs H0 D dA c (.inr E, σ, jm_w c || w) := by
  rintro ⟨d, mi, pc, al, st, w, σ⟩ a nx rest q E σ1 w1 h hq hPa hvs hya hh
  obtain ⟨d', y, as, ins, a', b, cv, tl, rfl, hrow, hk, hc1, hn1, rfl⟩ := jm_call_of h
  replace hPa : jm_PP l b0 sc L xs H0 D dA d' y 0 (jm_en y as) [] false σ (.inr E) σ1 w1 := hPa
  show jm_PP l b0 sc L xs H0 D dA (d' + 1) mi pc al st w σ (.inr E) σ1 (w || w1)
  refine ⟨⟨hPa.1.1, hPa.1.2.1, hPa.1.2.2.1, fun h => ⟨(Bool.or_eq_false_iff.mp h).1, fun v hv => by cases hv⟩⟩, fun p e R s m args below meth c H locs cells slots ls c0 s0 hT hlv hwd hS hw hw0 hc hs hz h1 h2 T hT1 X => ?_⟩
  subst hT1
  obtain ⟨x, cell, Ls, T', X', hL, g1, g2, g3, g4, gw, glow, go⟩ := jm_site hl hrow hk hc1 hn1 hq hPa hvs hya X hT hlv.1 hwd hS hc hs hz h1 h2
  obtain ⟨t, st1, hQ⟩ := jm_leaves (E := E) (σ := σ) (ls := ls) (pc := pc) (rs := rest.map (jm_v b0 sc)) (w := w) hh hT hS.2.2 hw ⟨hPa.1.1, hPa.1.2.1⟩ hc hs X' hL g1 g2 g3 g4 gw glow
  exact ⟨t, go t st1, hQ⟩
def jm_vi : Instr → Bool
  | .invokevirtual _ => true
  | .invokestatic _ => true
  | _ => false
theorem xc_cov {mi pc : Nat} {ins : Instr} {row : Nat × Nat × Nat × Int32 × List Nat} (hcv : jt_hcv mi = true) (hrow : jm_at mi pc = some (ins, row)) (hvs : jm_vi ins = true) : ∀ z ∈ jt_hh mi, z.1 ≤ pc ∧ pc < z.2.1 := by
  have h := List.all_eq_true.mp hcv _ (jm_lk hrow)
  intro z hz
  cases ins with
  | invokevirtual idx =>
    have h' := List.all_eq_true.mp h z hz
    simp only [Bool.and_eq_true, decide_eq_true_eq] at h'
    exact h'
  | invokestatic idx =>
    have h' := List.all_eq_true.mp h z hz
    simp only [Bool.and_eq_true, decide_eq_true_eq] at h'
    exact h'
  | _ => cases hvs
theorem jm_sem_cat (hl : ∀ e : Env, l.admits e → e.platform.stackTraces = false) : ∀ (c a : jm_Cf) (nx : Nat) (rest : List Value) (q : Prop) (E : Nat) (σ : jm_S) (w : Bool) (x : Int32), jm_call c = some (a, nx, rest, q) → q → jm_P l b0 sc L xs H0 D dA a (.inr E, σ, w) → jm_vs c = true → jt_hh (jm_mi a) = [] → (jt_hd (jm_mi c)).lookup E = some x → jm_P l b0 sc L xs H0 D dA c (.inl (some (.int x)), σ, true) := by
  rintro ⟨d, mi, pc, al, st, w, σ⟩ a nx rest q E σ1 w1 k h hq hPa hvs hya hE
  obtain ⟨d', y, as, ins, a', b, cv, tl, rfl, hrow, hk, hc1, hn1, rfl⟩ := jm_call_of h
  replace hPa : jm_PP l b0 sc L xs H0 D dA d' y 0 (jm_en y as) [] false σ (.inr E) σ1 w1 := hPa
  replace hE : (jt_hd mi).lookup E = some k := hE
  show jm_PP l b0 sc L xs H0 D dA (d' + 1) mi pc al st w σ (.inl (some (.int k))) σ1 true
  refine ⟨⟨hPa.1.1, hPa.1.2.1, hPa.1.2.2.1, fun h => by cases h⟩, fun p e R s m args below meth c H locs cells slots ls c0 s0 hT hlv hwd hS hw hw0 hc hs hz h1 h2 T hT1 X => ?_⟩
  subst hT1
  obtain ⟨x, cell, Ls, T', X', hL, g1, g2, g3, ⟨kc, g4⟩, gw, glow, go⟩ := jm_site hl hrow hk hc1 hn1 hq hPa hvs hya X hT hlv.1 hwd hS hc hs hz h1 h2
  obtain ⟨hrt, hcv, hx⟩ := jt_hx hE
  have hvs' : jm_vi ins = true := by
    unfold jm_vs at hvs
    simp only [hrow] at hvs
    revert hvs
    cases ins <;> intro hvs <;> first | rfl | cases hvs
  have hcov := xc_cov hcv hrow hvs'
  have hexc := hT.2.2.2.2.2.2.2.2.2.2.2.2.1
  have hown := hT.2.2.2.2.2.2.1
  rw [← jt_on] at hown
  have hts := hT.2.2.2.2.2.2.2.1
  have hpl : e.platform.magicAccessors = ({} : Platform).magicAccessors := by rw [X.admits.platform]
  have hLs : ∀ q ∈ locs ++ Ls, b0 ≤ q.base := fun q hq => by
    rcases List.mem_append.mp hq with z | z
    · exact hS.2.2 q z
    · exact (hL q z).1
  have h01 := hPa.1
  -- the end, once the search has found the handler at h
  have fin : ∀ (h : Nat) (vm' : Vm), jt_hcode mi h k = true → s.WarmedH vm' → xc_F e ((T'.setTop (F0 m pc ls (rest.map (jm_v b0 sc)))).pushFrame (.throwing x)) (F0 m pc ls (rest.map (jm_v b0 sc))) x h vm' → ∃ t, Steps p.tables e below (T.setTop (F0 m pc ls (st.map (jm_v b0 sc)))) t ∧ jm_Q b0 sc L xs H0 D dA below s (.inl (some (.int k))) σ1 true c0 s0 t := by
    intro h vm' hcode hWv hF
    obtain ⟨t, stp, hQ⟩ := jm_hand (T := T'.setVm vm') (c0 := c0) (s0 := s0) hcode hrt (X'.noted hWv) hT ⟨hlv.1, hlv.2.1⟩ hLs gw glow (by omega) (by omega) x
    exact ⟨t, go t (xc_step X'.here hF stp), hQ⟩
  have hasg : ∀ (X2 : String) (cT : ClassId), s.vm.findClass X2 = some cT → (Cond.castable (jt_xn E) X2).before args s = true → T'.vm.assignable cell.cls cT = true := by
    intro X2 cT hf hcast
    obtain ⟨ca, cb, w1, w2, w3⟩ := Cond.castable_spec hcast
    cases g2.symm.trans w1
    cases hf.symm.trans w2
    rw [X'.warmed.alike.assignable]
    exact w3
  obtain ⟨kc', hkc', -⟩ := X'.warmed.alike.2.2 _ _ g4
  have hm' : ((T'.setTop (F0 m pc ls (rest.map (jm_v b0 sc)))).pushFrame (.throwing x)).vm.method? m = some meth := X'.method'
  rcases hx with ⟨s', e', h', ct, po, hhh, hct, hcode, hlk⟩ | ⟨s1, e1, h1', ct1, s', e', h', ct, po, hhh, hct1, hct, hcode, hlk1, hlk, hnc⟩
  · rw [hhh] at hexc
    obtain ⟨z, zs, hzs, hz1, -⟩ := List.map_eq_cons_iff.mp hexc
    have hcz := hcov (s', e', h', ct) (by rw [hhh]; exact List.mem_cons_self)
    obtain ⟨cT, hfT, hlT⟩ := Cond.classLink_spec hown (hts _ hlk) e.platform hpl
    obtain ⟨kT, hkT⟩ := Vm.classAt_of_findClass hfT
    obtain ⟨kT', hkT', -⟩ := X'.warmed.alike.2.2 _ _ hkT
    injection hz1 with z1 z2
    injection z2 with z2 z3
    injection z3 with z3 z4
    obtain ⟨dk, _, _, _, hdk, _, _, _, _, _, _, hres⟩ := hlT.here
    refine fin h' (T'.vm.noted m.cls ct (.cls cT)) hcode (X'.warmed.noted hdk hres (State.rightAt_cls hlT)) ?_
    have gen : ∀ S : State, S.vm = T'.vm → S.heap = T'.heap → xc_F e S (F0 m pc ls (rest.map (jm_v b0 sc))) x h' (T'.vm.noted m.cls ct (.cls cT)) := by
      intro S hSv hSh Q E' dd acts
      have hm2 : S.vm.method? (F0 m pc ls (rest.map (jm_v b0 sc))).method = some meth := by rw [hSv]; exact X'.method'
      have key := xc_go (Q := Q) (E := E') (e := e) (d := dd) (acts := acts) (s := S) (f := F0 m pc ls (rest.map (jm_v b0 sc))) (a := x) (x := z) (t := zs) (c := cT) (cell := cell) (by simp only [covers, Bool.and_eq_true, decide_eq_true_eq]; rw [z1, z2]; exact hcz) (by rw [z4]; exact hct) (by rw [z4, hSv]; exact X'.warmed.classLinks hlT) (by rw [hSh]; exact g1) g3 (by rw [hSv]; exact ⟨kc', hkc'⟩) (by rw [hSv]; exact ⟨kT', hkT'⟩)
      rw [hSv, if_pos (hasg _ cT hfT (hts _ (jt_cc E))), z3, z4] at key
      rw [Jvm.W.findHandler_eq hm2 X'.code, hzs]
      exact key
    exact gen _ rfl rfl
  · rw [hhh] at hexc
    obtain ⟨z, zs, hzs, hz1, hzr⟩ := List.map_eq_cons_iff.mp hexc
    obtain ⟨u, us, hus, hu1, -⟩ := List.map_eq_cons_iff.mp hzr
    have hcz := hcov (s1, e1, h1', ct1) (by rw [hhh]; exact List.mem_cons_self)
    have hcu := hcov (s', e', h', ct) (by rw [hhh]; exact List.mem_cons_of_mem _ List.mem_cons_self)
    obtain ⟨c1, hf1, hl1⟩ := Cond.classLink_spec hown (hts _ hlk1) e.platform hpl
    obtain ⟨k1, hk1⟩ := Vm.classAt_of_findClass hf1
    obtain ⟨k1', hk1', -⟩ := X'.warmed.alike.2.2 _ _ hk1
    obtain ⟨cT, hfT, hlT⟩ := Cond.classLink_spec hown (hts _ hlk) e.platform hpl
    obtain ⟨kT, hkT⟩ := Vm.classAt_of_findClass hfT
    injection hz1 with z1 z2
    injection z2 with z2 z3
    injection z3 with z3 z4
    injection hu1 with u1 u2
    injection u2 with u2 u3
    injection u3 with u3 u4
    obtain ⟨dk1, _, _, _, hdk1, _, _, _, _, _, _, hres1⟩ := hl1.here
    have hW1 := X'.warmed.noted hdk1 hres1 (State.rightAt_cls hl1)
    obtain ⟨dk, _, _, _, hdk, _, _, _, _, _, _, hres⟩ := hlT.here
    have hW2 := hW1.noted hdk hres (State.rightAt_cls hlT)
    obtain ⟨kT', hkT', -⟩ := hW1.alike.2.2 _ _ hkT
    obtain ⟨kc2, hkc2, -⟩ := hW1.alike.2.2 _ _ g4
    refine fin h' _ hcode hW2 ?_
    obtain ⟨ca, cb, w1', w2', w3'⟩ := hT.2.2.2.2.2.2.2.2.2.2.2.1.2.2 _ hnc
    have hno : T'.vm.assignable cell.cls c1 = false := by
      cases g2.symm.trans w1'
      cases hf1.symm.trans w2'
      rw [X'.warmed.alike.assignable]
      exact w3'
    have hyes : (T'.vm.noted m.cls ct1 (.cls c1)).assignable cell.cls cT = true := by
      obtain ⟨ca2, cb2, v1, v2, v3⟩ := Cond.castable_spec (hts _ (jt_cc E))
      cases g2.symm.trans v1
      cases hfT.symm.trans v2
      rw [hW1.alike.assignable]
      exact v3
    have gen : ∀ S : State, S.vm = T'.vm → S.heap = T'.heap → xc_F e S (F0 m pc ls (rest.map (jm_v b0 sc))) x h' ((T'.vm.noted m.cls ct1 (.cls c1)).noted m.cls ct (.cls cT)) := by
      intro S hSv hSh Q E' dd acts
      have hm2 : S.vm.method? (F0 m pc ls (rest.map (jm_v b0 sc))).method = some meth := by rw [hSv]; exact X'.method'
      have key := xc_go (Q := Q) (E := E') (e := e) (d := dd) (acts := acts) (s := S) (f := F0 m pc ls (rest.map (jm_v b0 sc))) (a := x) (x := z) (t := u :: us) (c := c1) (cell := cell) (by simp only [covers, Bool.and_eq_true, decide_eq_true_eq]; rw [z1, z2]; exact hcz) (by rw [z4]; exact hct1) (by rw [z4, hSv]; exact X'.warmed.classLinks hl1) (by rw [hSh]; exact g1) g3 (by rw [hSv]; exact ⟨kc', hkc'⟩) (by rw [hSv]; exact ⟨k1', hk1'⟩)
      rw [hSv, if_neg (by rw [hno]; decide), z4] at key
      have key2 := xc_go (Q := Q) (E := E') (e := e) (d := dd) (acts := acts) (s := S.setVm (T'.vm.noted m.cls ct1 (.cls c1))) (f := F0 m pc ls (rest.map (jm_v b0 sc))) (a := x) (x := u) (t := us) (c := cT) (cell := cell) (by simp only [covers, Bool.and_eq_true, decide_eq_true_eq]; rw [u1, u2]; exact hcu) (by rw [u4]; exact hct) (by rw [u4]; exact hW1.classLinks hlT) (by show S.heap[x]? = _; rw [hSh]; exact g1) g3 ⟨kc2, hkc2⟩ ⟨kT', hkT'⟩
      rw [if_pos (show (S.setVm (T'.vm.noted m.cls ct1 (.cls c1))).vm.assignable cell.cls cT = true from hyes), u3, u4] at key2
      rw [Jvm.W.findHandler_eq hm2 X'.code, hzs, hus]
      exact key.trans key2
    exact gen _ rfl rfl
theorem jm_sound (hl : ∀ e : Env, l.admits e → e.platform.stackTraces = false) : jm_rules (jm_P l b0 sc L xs H0 D dA) :=
  ⟨jm_sem_step, jm_sem_ret, jm_sem_call hl, jm_sem_thr hl, jm_sem_cat hl⟩
theorem jm_real (hl : ∀ e : Env, l.admits e → e.platform.stackTraces = false) {c : jm_Cf} {r : jm_Rs} (h : jm_E c r) : jm_P l b0 sc L xs H0 D dA c r := h _ (jm_sound hl)
end
