/-! an own exception is made and thrown -/
section
variable {l : Launch} {b0 sc L : Nat} {xs : Nat → Int32} {H0 : Heap} {D : va_G} {dA : Nat → ClassId} {d mi pc nx a b : Nat} {cv : Int32} {tl : List Nat} {al : List (Option Value)} {st : List Value} {w : Bool} {σ : jm_S} {q : Prop} {r : jm_Rs}
theorem vk_Rof {own tx : String} {k : Nat} {A : Array Value} {s : State} (h : (Cond.stringRef own k tx).before A s = true) : ∃ q, vk_R own k tx q s := by
  have h1 := h
  simp only [Cond.before, Cond.holds, Cond.value] at h1
  cases hf : s.vm.findClass own with
  | none => rw [hf] at h1; cases h1
  | some c =>
    rw [hf] at h1
    simp only [Option.map_some] at h1
    cases hr : s.resolvedAt? own k with
    | none => rw [hr] at h1; simp at h1
    | some v =>
      rw [hr] at h1
      cases v with
      | string a =>
        refine ⟨a, vk_R.of (A := A) h ?_⟩
        simp only [Term.eval]
        unfold State.resolvedAt? at hr
        simp only [hr, Option.bind_eq_bind, Option.bind_some]
        rw [hf] at hr ⊢
        simp only [Option.bind_eq_bind, Option.bind_some] at hr ⊢
        cases hk : s.vm.classes[c]? with
        | none => rw [hk] at hr; cases hr
        | some kc =>
          rw [hk] at hr
          simp only [Option.bind_some] at hr ⊢
          rw [hr]
          rfl
      | _ => simp at h1
theorem jm_same0 {s t : State} {k n z : Nat} (h : s.sameButNew t [] k n) (hz : z < s.heap.size) : t.heap[z]? = s.heap[z]? := by
  obtain ⟨-, -, -, -, -, h6⟩ := h
  obtain ⟨c', e1, e2, e3, e4⟩ := h6 z s.heap[z] (Array.getElem?_eq_getElem hz)
  have hs : c'.slots = s.heap[z].slots := by
    refine Array.ext_getElem? fun i => ?_
    exact e4 i (List.not_mem_nil)
  rw [hs] at e2
  rw [e1, Array.getElem?_eq_getElem hz, e2]
theorem jy_throw {idx : Nat} (hd : decode (jt_by mi) pc = .ok (.new idx, nx - pc)) (hg : jm_gi mi pc nx a b cv tl (.new idx) = true) (h : jm_rx d st w σ a tl (.new idx) = some (r, q)) (hq : q) : jm_PP l b0 sc L xs H0 D dA d mi pc al st w σ r.1 r.2.1 r.2.2 := by
  simp only [jm_rx] at h
  split at h
  · by_cases ha : 100 ≤ a
    · rw [if_pos ha] at h
      cases h
      obtain ⟨rfl, hd6⟩ := hq
      simp only [jm_gi, Bool.and_eq_true, beq_iff_eq, if_neg (show ¬ a < 10 by omega)] at hg
      obtain ⟨rfl, hf⟩ := hg
      rw [Nat.add_sub_cancel_left] at hd
      obtain ⟨li, si, tx, hhh, k3, k4, k6, k9, hclk, hins, hini, hstr, hat, hfit⟩ := jt_ta hf
      refine ⟨⟨by show jm_nc σ ≤ jm_nc (jm_th σ); unfold jm_nc jm_th; simp only; omega, by show jm_ns σ ≤ jm_ns (jm_th σ); unfold jm_ns jm_th; simp only; omega, fun z => absurd (show σ.2.2.2.2.2.2 + 1 = 0 from z) (by omega), fun _ => ⟨rfl, fun v hv => by cases hv⟩⟩, fun p e R s m args below meth c H locs cells slots ls c0 s0 hT hlv hwd hS hw hw0 hc hs hz h1 h2 T0 hT0 X0 => ?_⟩
      have hown := hT.2.2.2.2.2.2.1
      rw [← jt_on] at hown
      have hts := hT.2.2.2.2.2.2.2.1
      have hlocs : locs = [] := by
        cases locs with
        | nil => rfl
        | cons z t => exact absurd (hw z List.mem_cons_self) (by decide)
      subst hlocs
      have hc00 := hw0 rfl
      subst hc00
      have hb0 := hT.2.2.2.2.2.2.2.2.2.2.2.2.2.2.2
      have hge : s.heap.size ≤ H.size := by
        have := X0.same.2.1
        have h' : s.heap.size ≤ T0.heap.size := this
        rw [hT0] at h'; exact h'
      have hle : H.size ≤ s.heap.size := by
        have := X0.heapSize
        rw [hT0] at this; omega
      have hnc1 : jm_nc (jm_th σ) = jm_nc σ + 1 := by unfold jm_nc jm_th; simp only; omega
      have hns1 : jm_ns (jm_th σ) = jm_ns σ + 6 := by unfold jm_ns jm_th; simp only; omega
      have h1' : jm_nc (jm_th σ) ≤ c0 + R.cells := h1
      have h2' : jm_ns (jm_th σ) ≤ s0 + R.slots := h2
      obtain ⟨cX, kX0, hfc, hkX0, -, -⟩ := Cond.instantiable_spec (hts _ hins)
      have hlow : ∀ z, z < H0.size → s.heap[z]? = H0[z]? := by
        intro z hz'
        have e1 := jm_same0 X0.same (show z < s.heap.size by have := hS.1; omega)
        have e2 : H[z]? = H0[z]? := hS.2.1 z hz' (by omega)
        have e3 : T0.heap[z]? = s.heap[z]? := e1
        rw [← e3, hT0]; exact e2
      have hts2 : ∀ w ∈ jt_ts, w.before args s = true := jm_ts_at hlow hT.2.2.2.2.2.2.2.2.2.2.2.1.2.1
      obtain ⟨qs, hqs⟩ : ∃ qs, vk_R (jt_cn (jt_oc mi)) li tx qs s := vk_Rof (hts _ hstr)
      have go : W p l e R s m args below meth c H [] 0 slots (jm_Q b0 sc L xs H0 D dA below s (.inr (a - 100)) (jm_th σ) false c0 s0) (F0 m pc ls []) := by
        refine W.newcK hT.1 hT.2.1 hown (hts _ hclk) (hts _ hins) (hts _ hini) rfl hd (by omega) (by omega) hfc rfl (fun H' kC hkC e1 z1 o1 => ?_)
        refine lv_dup hT.1 hT.2.1 k3 rfl ?_
        refine va_ldcS hT.1 hT.2.1 hown hqs k4 ?_
        intro T hT1 X
        have hexc : ∀ x ∈ c.exceptionTable.toList, covers x (pc + 3 + 1 + 2 + 3) = false := by
          intro x hx
          have := hT.2.2.2.2.2.2.2.2.2.2.2.2.1
          rw [hhh, List.map_eq_nil_iff] at this
          rw [this] at hx; cases hx
        have k1 := hT.2.2.2.2.2.2.2.2.2.1
        have k2 := hT.2.2.2.2.2.2.2.2.2.2.1
        obtain ⟨U, stp, a1, a2, a3, a4, ce, b1, b2⟩ := X.ctorThrowS hT.1 hT.2.2.2.2.2.2.2.2.2.2.2.1.1 hown hfit (by decide) (names := jt_xs) (ic := si) (fun w hw => (hat w hw).elim (hts w) (hts2 w)) (fun x hx => by cases hx) hfc hkC (by rw [hT1]; exact e1) hge (msg := .ref qs) rfl (g := F0 m (pc + 3 + 1 + 2) ls [.ref qs, .ref H.size, .ref H.size]) rfl (hlv.1.trans hT.2.2.1.symm) rfl rfl (rest := []) rfl (by rw [hT.2.1]; exact k6) (by rw [hT.2.1]; exact k9) hexc (by show 2 + 3 < _; omega) (by show 2 * 0 + (1 + 0) + (13 * 3 + 42) ≤ _; omega) hT.2.2.2.2.1
        have hkeep : ∀ z, z < s.heap.size → U.heap[z]? = s.heap[z]? := fun z hz' => by
          have h9 := jm_same0 a4 hz'
          exact h9
        have hHs : ∀ z, z < s.heap.size → H[z]? = s.heap[z]? := fun z hz' => by
          have h9 := jm_same0 X0.same hz'
          rw [← hT0]
          exact h9
        refine ⟨U, stp, .threw H.size, a1, a2, ⟨H.size, ce, rfl, b1, b2.cls, b2.vm, ?_⟩, ⟨?_, hwd.2⟩, ?_, a3, [], ?_, fun z hz' => by cases hz'⟩
        · exact ⟨_, by rw [← Option.some.inj (hfc.symm.trans b2.cls)]; exact hkC⟩
        · refine va_P.kept (H := H) hwd.1 (fun k z hz' => ?_)
          have hlt : z.1 < H.size := (hwd.1 k z hz').lt
          rw [hkeep z.1 (by omega), hHs z.1 (by omega)]
        · intro z hz'
          rw [hkeep z (by have := hS.1; omega)]
          exact hlow z (by omega)
        · rw [show jm_nc (jm_th σ) - c0 = 0 + 1 by omega, show jm_ns (jm_th σ) - s0 = slots + 6 by omega]
          exact a4
      exact go T0 hT0 X0
    · rw [if_neg ha] at h; cases h
  · cases h
end
