/-! a call that answers -/
theorem jm_or {w w1 w2 : Bool} {σ σ1 σ2 : jm_S} {v : Option Value} {out : Option Value ⊕ Nat} (h1 : w1 = false → false = false ∧ ∀ v', (Sum.inl v : Option Value ⊕ Nat) = .inl v' → jm_nc σ1 = jm_nc σ) (h2 : w2 = false → (w || w1) = false ∧ ∀ v', out = .inl v' → jm_nc σ2 = jm_nc σ1) : w2 = false → w = false ∧ ∀ v', out = .inl v' → jm_nc σ2 = jm_nc σ := by
  intro h
  obtain ⟨a, b⟩ := h2 h
  rw [Bool.or_eq_false_iff] at a
  exact ⟨a.1, fun v' hv => (b v' hv).trans ((h1 a.2).2 v rfl)⟩
section
variable {l : Launch} {b0 sc L : Nat} {xs : Nat → Int32} {H0 : Heap} {D : va_G} {dA : Nat → ClassId} {d mi pc nx y : Nat} {al : List (Option Value)} {st as rest : List Value} {w w1 w2 : Bool} {σ σ1 σ2 : jm_S} {out : Option Value ⊕ Nat} {v : Option Value}
theorem jm_back {p : Program} {e : Env} {R : Room} {s : State} {m : MethodId} {args : Array Value} {below : List Frame} {meth : Method} {c : Code} {H : Heap} {locs : List Loc} {cells slots : Nat} {ls : Array Slot} {c0 s0 : Nat} {st0 : List Value} {a : Array Value}
    (hr : va_Run p l e R s m args below meth c H locs cells slots (jm_nc σ1 - jm_nc σ) (jm_ns σ1 - jm_ns σ) (F0 m pc ls st0) (rest.map (jm_v b0 sc)) (jm_Qc b0 sc L xs H0 D dA (.inl v) σ1 a) (fun q => b0 ≤ q ∧ w1 = true))
    (hP2 : jm_PP l b0 sc L xs H0 D dA d mi (pc + 3) al (v.toList ++ rest) (w || w1) σ1 out σ2 w2) (h01 : jm_nc σ ≤ jm_nc σ1 ∧ jm_ns σ ≤ jm_ns σ1 ∧ (σ1.2.2.2.2.2.2 = 0 → σ.2.2.2.2.2.2 = 0) ∧ (w1 = false → false = false ∧ ∀ v', (Sum.inl v : Option Value ⊕ Nat) = .inl v' → jm_nc σ1 = jm_nc σ))
    (hT : jm_T b0 sc L xs H0 D dA p e R s m args meth c d mi) (hlv : jm_lv b0 sc ls (jt_ml mi) al) (hS : va_S (fun q => b0 ≤ q) H0 H locs) (hw : ∀ q ∈ locs, w = true) (hw0 : w = false → cells = 0)
    (hc : cells + c0 = jm_nc σ) (hs : slots + s0 = jm_ns σ) (hz : σ.2.2.2.2.2.2 = 0 → s.heap.size ≤ b0 + c0) (h1 : jm_nc σ2 ≤ c0 + R.cells) (h2 : jm_ns σ2 ≤ s0 + R.slots) :
    W p l e R s m args below meth c H locs cells slots (jm_Q b0 sc L xs H0 D dA below s out σ2 w2 c0 s0) (F0 m pc ls st0) := by
  intro T hT1 X
  obtain ⟨v', st₀, t, T', Ls, g0, X', hL, e1, e2, ⟨hoc, hwd1, hlow, -⟩, go⟩ := hr T hT1 X
  have hv : v' = v.map (jm_v b0 sc) := by
    have : Outcome.returned v' = .returned (v.map (jm_v b0 sc)) := hoc
    cases this
    rfl
  subst hv
  have hS1 : va_S (fun q => b0 ≤ q) H0 T'.heap (locs ++ Ls) := by
    have hz0 := hT.2.2.2.2.2.2.2.2.2.2.2.2.2.2.2
    refine ⟨?_, fun q k1 k2 => ?_, fun q hq => ?_⟩
    · have := X'.same.2.1
      have h3 : s.heap.size ≤ T'.heap.size := this
      rw [e1]
      have hlen : ∀ q, q < b0 → t.heap[q]? = H0[q]? := hlow
      rcases Nat.eq_zero_or_pos b0 with hb | hb
      · omega
      · have h4 := hlow (b0 - 1) (by omega)
        rw [Array.getElem?_eq_getElem (show b0 - 1 < H0.size by omega)] at h4
        have := (Array.getElem?_eq_some_iff.mp h4).1
        omega
    · rw [e1]
      exact hlow q (by omega)
    · rcases List.mem_append.mp hq with k | k
      · exact hS.2.2 q k
      · exact (hL q k).1
  have hst : (v.map (jm_v b0 sc)).toList ++ rest.map (jm_v b0 sc) = (v.toList ++ rest).map (jm_v b0 sc) := by
    cases v <;> simp
  have hgo := hP2.2 p e R s m args below meth c T'.heap (locs ++ Ls) (cells + (jm_nc σ1 - jm_nc σ)) (slots + (jm_ns σ1 - jm_ns σ)) ls c0 s0 hT hlv (by rw [e1]; exact hwd1) hS1 (fun q hq => by
      rcases List.mem_append.mp hq with k | k
      · rw [hw q k]; rfl
      · rw [(hL q k).2]; simp) (fun h => by
      rw [Bool.or_eq_false_iff] at h
      have k1 := hw0 h.1
      have k2 := (h01.2.2.2 h.2).2 v rfl
      omega) (by omega) (by omega) (fun k => hz (h01.2.2.1 k)) h1 h2 T' rfl X'
  obtain ⟨u, a1, b1⟩ := hgo
  refine ⟨u, go u ?_, b1⟩
  show Steps p.tables e below (T'.setTop (F0 m (pc + 3) ls ((v.map (jm_v b0 sc)).toList ++ rest.map (jm_v b0 sc)))) u
  rw [hst]
  exact a1
theorem jm_pre {p : Program} {e : Env} {R : Room} {s : State} {m : MethodId} {args : Array Value} {meth : Method} {c : Code} {H : Heap} {locs : List Loc} {a : Array Value}
    (hT : jm_T b0 sc L xs H0 D dA p e R s m args meth c d mi) (hwd : jm_wd b0 sc L xs D dA σ H) (hS : va_S (fun q => b0 ≤ q) H0 H locs) (ha : a = (as.map (jm_v b0 sc)).toArray) {U : State} (hU : U.heap = H) (hW : s.WarmedH U.vm) (hsz : σ.2.2.2.2.2.2 = 0 → H.size ≤ b0 + jm_nc σ) : jm_Pc b0 sc L xs H0 D dA σ as a U := by
  have hz := hT.2.2.2.2.2.2.2.2.2.2.2.2.2.2.2
  refine ⟨ha, fun w hw => jm_tr (jt_wk hw) hW (hT.2.2.2.2.2.2.2.1 w hw), hT.2.2.2.2.2.2.2.2.1.moved hW.alike, by rw [hU]; exact hwd, fun q hq => by rw [hU]; exact hS.2.1 q (by omega) (by omega), by rw [hU]; have := hS.1; omega, ⟨hT.2.2.2.2.2.2.2.2.2.2.2.2.2.1.moved hW.alike, jm_ts_mv hW hT.2.2.2.2.2.2.2.2.2.2.2.1.2.1, fun z hz => (hT.2.2.2.2.2.2.2.2.2.2.2.1.2.2 z hz).moved hW.alike⟩, hT.2.2.2.2.2.2.2.2.2.2.2.2.2.2.1, hz, by rw [hU]; exact hsz⟩
end
