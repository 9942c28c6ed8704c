/-! making cells -/
theorem jm_at1_ne {α : Type} {f : Nat → α} {r k : Nat} {x : α} (h : k ≠ r) : jm_at1 f r x k = f k := if_neg h
theorem jm_at1_in {α : Type} {f : Nat → α} {r : Nat} {x : α} : jm_at1 f r x r = x := if_pos rfl
theorem jm_e_nw {b0 sc : Nat} {dA : Nat → ClassId} {σ : jm_S} {k b q : Nat} (h : q ≠ σ.1 + 2) : jm_e b0 sc dA (jm_nw σ k b) q = jm_e b0 sc dA σ q := by
  have h1 : (jm_nw σ k b).2.1 q = σ.2.1 q := jm_at1_ne h
  have h2 : (jm_nw σ k b).2.2.1 q = σ.2.2.1 q := jm_at1_ne h
  have h3 : (jm_nw σ k b).2.2.2.1 q = σ.2.2.2.1 q := jm_at1_ne h
  have h4 : (jm_nw σ k b).2.2.2.2.1 q = σ.2.2.2.2.1 q := jm_at1_ne h
  unfold jm_e jm_fv
  rw [h1, h2, h3, h4]
theorem jm_nw_k {σ : jm_S} {k b : Nat} : (jm_nw σ k b).2.1 (σ.1 + 2) = (k, b) := jm_at1_in
theorem jm_nw_R {σ : jm_S} {k b : Nat} : (jm_nw σ k b).2.2.1 (σ.1 + 2) = fun _ => 0 := jm_at1_in
theorem jm_nw_I {σ : jm_S} {k b : Nat} : (jm_nw σ k b).2.2.2.1 (σ.1 + 2) = fun _ => 0 := jm_at1_in
theorem jm_nw_L {σ : jm_S} {k b : Nat} : (jm_nw σ k b).2.2.2.2.1 (σ.1 + 2) = fun _ => 0 := jm_at1_in
theorem jm_nc_nw (σ : jm_S) (k b : Nat) : jm_nc (jm_nw σ k b) = jm_nc σ + 1 := by unfold jm_nc jm_nw; simp only; omega
theorem jm_ns_nw (σ : jm_S) (k b : Nat) : jm_ns (jm_nw σ k b) = jm_ns σ + b := by unfold jm_ns jm_nw; simp only; omega
theorem jm_catm {b0 sc : Nat} {st : List Value} : ((st.map (jm_v b0 sc)).map fun v => v.category).sum = jm_cat st := by
  unfold jm_cat
  rw [List.map_map]
  congr 1
  refine List.map_congr_left fun v _ => ?_
  exact jm_v_cat b0 sc v
section
variable {l : Launch} {b0 sc L : Nat} {xs : Nat → Int32} {H0 : Heap} {D : va_G} {dA : Nat → ClassId} {d mi pc nx a b : Nat} {cv : Int32} {tl : List Nat} {al : List (Option Value)} {st : List Value} {w : Bool} {σ : jm_S} {cf' : jm_Cf} {q : Prop} {r : jm_Rs}
theorem jm_born {k : Nat} {out : Option Value ⊕ Nat} {σ1 : jm_S} {w1 : Bool} (hP : jm_PP l b0 sc L xs H0 D dA d mi nx al (.ref (σ.1 + 2) :: st) true (jm_nw σ k b) out σ1 w1) (ht : σ.2.2.2.2.2.2 = 0)
    {p : Program} {e : Env} {R : Room} {s : State} {m : MethodId} {args : Array Value} {below : List Frame} {meth : Method} {c : Code} {H H1 : Heap} {locs : List Loc} {cells slots : Nat} {ls : Array Slot} {c0 s0 q0 : Nat} {x : va_E}
    (hT : jm_T b0 sc L xs H0 D dA p e R s m args meth c d mi) (hlv : jm_lv b0 sc ls (jt_ml mi) al) (hwd : jm_wd b0 sc L xs D dA σ H)
    (hc : cells + c0 = jm_nc σ) (hs : slots + s0 = jm_ns σ) (hz : σ.2.2.2.2.2.2 = 0 → s.heap.size ≤ b0 + c0) (h1 : jm_nc σ1 ≤ c0 + R.cells) (h2 : jm_ns σ1 ≤ s0 + R.slots)
    (g1 : va_P D jt_cl (jm_ws b0 sc dA σ ++ [(q0, x)]) H1) (g2 : va_D (fun z => b0 ≤ z) (jm_ws b0 sc dA σ ++ [(q0, x)])) (g3 : va_S (fun z => b0 ≤ z) H0 H1 locs) (hx : x = jm_e b0 sc dA (jm_nw σ k b) (σ.1 + 2)) :
    W p l e R s m args below meth c H1 locs (cells + 1) (slots + b) (jm_Q b0 sc L xs H0 D dA below s out σ1 w1 c0 s0) (F0 m nx ls (.ref q0 :: st.map (jm_v b0 sc))) := by
  intro T hT1 X
  have hsz := X.heapSize
  have hlast : (jm_ws b0 sc dA σ ++ [(q0, x)])[σ.1]? = some (q0, x) := by
    rw [List.getElem?_append_right (by rw [jm_ws_len]; omega), jm_ws_len, Nat.sub_self]
    rfl
  have hlt : q0 < H1.size := (g1 _ _ hlast).lt
  have hge : b0 ≤ q0 := g2.2 _ _ hlast
  have hz' := hz ht
  have hnc : jm_nc σ = σ.1 := by unfold jm_nc; omega
  rw [hT1] at hsz
  have hq : q0 = b0 + σ.1 := by
    rcases Nat.lt_or_ge (q0 - b0) σ.1 with hi | hi
    · exfalso
      have hat : (jm_ws b0 sc dA σ ++ [(q0, x)])[q0 - b0]? = some (b0 + (q0 - b0), jm_e b0 sc dA σ (q0 - b0 + 2)) := by
        rw [List.getElem?_append_left (by rw [jm_ws_len]; exact hi), jm_ws_k hi]
      have := g2.1 _ _ _ _ hat hlast (by show b0 + (q0 - b0) = q0; omega)
      omega
    · omega
  subst hq
  have hwd1 : jm_wd b0 sc L xs D dA (jm_nw σ k b) H1 := by
    refine ⟨?_, ?_, fun j hj => ?_⟩
    · rw [jm_ws_push (σ' := jm_nw σ k b) rfl (by rw [hx]) (fun k' hk' => jm_e_nw (by omega))] at g1
      exact g1
    · have : (jm_nw σ k b).2.1 1 = σ.2.1 1 := jm_at1_ne (f := σ.2.1) (r := σ.1 + 2) (k := 1) (x := (k, b)) (by omega)
      rw [this]; exact hwd.2.1
    · have : (jm_nw σ k b).2.2.2.1 1 = σ.2.2.2.1 1 := jm_at1_ne (f := σ.2.2.2.1) (r := σ.1 + 2) (k := 1) (x := fun _ => 0) (by omega)
      rw [this]; exact hwd.2.2 j hj
  have hv : jm_v b0 sc (.ref (σ.1 + 2)) = .ref (b0 + σ.1) := by
    rw [jm_v_r (by omega), jm_ad_2 (by omega)]
    rfl
  have hgo := hP.2 p e R s m args below meth c H1 locs (cells + 1) (slots + b) ls c0 s0 hT hlv hwd1 g3 (fun _ _ => rfl) (fun h => absurd h (by decide)) (by rw [jm_nc_nw]; omega) (by rw [jm_ns_nw]; omega) (fun _ => hz') h1 h2
  rw [List.map_cons, hv] at hgo
  exact hgo T hT1 X
theorem jx_new {idx : Nat} (hd : decode (jt_by mi) pc = .ok (.new idx, nx - pc)) (hg : jm_gi mi pc nx a b cv tl (.new idx) = true) (h : jm_ex d mi al st w σ nx a b cv tl (.new idx) = some (cf', q)) (hq : q) (hP : jm_P l b0 sc L xs H0 D dA cf' r) : jm_PP l b0 sc L xs H0 D dA d mi pc al st w σ r.1 r.2.1 r.2.2 := by
  simp only [jm_gi, Bool.and_eq_true, beq_iff_eq] at hg
  obtain ⟨rfl, hf⟩ := hg
  rw [Nat.add_sub_cancel_left] at hd
  simp only [jm_ex] at h
  by_cases ha : a < 10
  · rw [if_pos ha] at h hf
    cases h
    obtain ⟨ha6, hbN, hlk, hins, hini⟩ := jt_na hf
    obtain ⟨hcl, hin, hnm, hty, hlen⟩ := jt_c6 ha6
    have hc1 := hP.1
    rw [jm_nc_nw, jm_ns_nw] at hc1
    refine ⟨⟨by omega, by omega, fun z => hc1.2.2.1 z, fun h => absurd (show true = false from (hc1.2.2.2 h).1) (by decide)⟩, fun p e R s m args below meth c H locs cells slots ls c0 s0 hT hlv hwd hS hw hw0 hc hs hz h1 h2 => ?_⟩
    have hown := hT.2.2.2.2.2.2.1
    rw [← jt_on] at hown
    have hts := hT.2.2.2.2.2.2.2.1
    subst hbN
    refine va_new (c0 := c) hT.1 hT.2.1 hts hin (jt_Y a) hty hown (hts _ hlk) (hts _ hins) (hts _ hini) hT.2.2.2.2.2.2.2.2.1 hwd.1 (jm_D b0 sc dA σ) hS (fun z hz => by have := hT.2.2.2.2.2.2.2.2.2.2.2.2.2.2.2; omega) hcl (fs := jm_fv b0 sc (jm_nw σ a (jt_N a)) a (σ.1 + 2)) (fun j hj => ?_) (by omega) (by omega) hd (fun q0 H1 g1 g2 g3 => ?_)
    · unfold vp_V
      rw [List.getD_eq_getElem?_getD, jm_fv_at (by rw [hlen]; exact hj), jm_nw_R, jm_nw_I]
      show _ = (if (jt_ft a).getD j 0 = 2 then Value.null else .int 0)
      exact (jt_y0 a ha6 j hj).2.2.2
    · exact jm_born hP hq hT hlv hwd hc hs hz h1 h2 g1 g2 g3 (by rw [jm_e_obj (a := a) (by rw [jm_nw_k]) ha])
  · rw [if_neg ha] at h
    cases h
theorem jx_newarray {ty : ArrayType} (hd : decode (jt_by mi) pc = .ok (.newarray ty, nx - pc)) (hg : jm_gi mi pc nx a b cv tl (.newarray ty) = true) (h : jm_ex d mi al st w σ nx a b cv tl (.newarray ty) = some (cf', q)) (hq : q) (hP : jm_P l b0 sc L xs H0 D dA cf' r) : jm_PP l b0 sc L xs H0 D dA d mi pc al st w σ r.1 r.2.1 r.2.2 := by
  simp only [jm_gi, Bool.and_eq_true, beq_iff_eq] at hg
  obtain ⟨rfl, hf⟩ := hg
  rw [Nat.add_sub_cancel_left] at hd
  simp only [jm_ex] at h
  split at h
  · rename_i x rest
    cases h
    obtain ⟨ht, hx0, hxb⟩ := hq
    have hc1 := hP.1
    rw [jm_nc_nw, jm_ns_nw] at hc1
    refine ⟨⟨by omega, by omega, fun z => hc1.2.2.1 z, fun h => absurd (show true = false from (hc1.2.2.2 h).1) (by decide)⟩, fun p e R s m args below meth c H locs cells slots ls c0 s0 hT hlv hwd hS hw hw0 hc hs hz h1 h2 => ?_⟩
    have hts := hT.2.2.2.2.2.2.2.1
    have hK := hT.2.2.2.2.2.2.2.2.1
    have hH : ∀ z, H0.size ≤ z → b0 ≤ z := fun z hz => by have := hT.2.2.2.2.2.2.2.2.2.2.2.2.2.2.2; omega
    cases ty with
    | int =>
      have ha : a = 10 := by simpa [jt_rk] using hf
      subst ha
      refine va_newa (a0 := (x.toNatClampNeg, .inl (fun _ => 0))) (atype := .int) (ty := .int) hT.1 hT.2.1 (hts _ jt_w10) rfl hK hwd.1 (jm_D b0 sc dA σ) hS hH (fun cA => rfl) hx0 rfl (by show x.toNatClampNeg * 4 ≤ _; omega) (by omega) (by omega) hd (fun q0 cA H1 g0 g1 g2 g3 => ?_)
      have := jt_cA (k := 10) rfl hK g0
      subst this
      exact jm_born hP ht hT hlv hwd hc hs hz h1 h2 g1 g2 g3 (by rw [jm_e_int (a := 10) (by rw [jm_nw_k]) (by omega) (by omega), jm_nw_I, jm_nw_k])
    | boolean =>
      have ha : a = 11 := by simpa [jt_rk] using hf
      subst ha
      refine va_newa (a0 := (x.toNatClampNeg, .inl (fun _ => 0))) (atype := .boolean) (ty := .boolean) hT.1 hT.2.1 (hts _ jt_w11) rfl hK hwd.1 (jm_D b0 sc dA σ) hS hH (fun cA => rfl) hx0 rfl (by show x.toNatClampNeg * 1 ≤ _; omega) (by omega) (by omega) hd (fun q0 cA H1 g0 g1 g2 g3 => ?_)
      have := jt_cA (k := 11) rfl hK g0
      subst this
      exact jm_born hP ht hT hlv hwd hc hs hz h1 h2 g1 g2 g3 (by rw [jm_e_int (a := 11) (by rw [jm_nw_k]) (by omega) (by omega), jm_nw_I, jm_nw_k])
    | long =>
      have ha : a = 12 := by simpa [jt_rk] using hf
      subst ha
      refine va_newa (a0 := (x.toNatClampNeg, .inr (.inl (fun _ => 0)))) (atype := .long) (ty := .long) hT.1 hT.2.1 (hts _ jt_w12) rfl hK hwd.1 (jm_D b0 sc dA σ) hS hH (fun cA => rfl) hx0 rfl (by show x.toNatClampNeg * 8 ≤ _; omega) (by omega) (by omega) hd (fun q0 cA H1 g0 g1 g2 g3 => ?_)
      have := jt_cA (k := 12) rfl hK g0
      subst this
      exact jm_born hP ht hT hlv hwd hc hs hz h1 h2 g1 g2 g3 (by rw [jm_e_long (by rw [jm_nw_k]), jm_nw_L, jm_nw_k])
    | _ => cases hf
  · cases h
theorem jx_anewarray {idx : Nat} (hd : decode (jt_by mi) pc = .ok (.anewarray idx, nx - pc)) (hg : jm_gi mi pc nx a b cv tl (.anewarray idx) = true) (h : jm_ex d mi al st w σ nx a b cv tl (.anewarray idx) = some (cf', q)) (hq : q) (hP : jm_P l b0 sc L xs H0 D dA cf' r) : jm_PP l b0 sc L xs H0 D dA d mi pc al st w σ r.1 r.2.1 r.2.2 := by
  simp only [jm_gi, Bool.and_eq_true, beq_iff_eq] at hg
  obtain ⟨rfl, hf⟩ := hg
  rw [Nat.add_sub_cancel_left] at hd
  simp only [jm_ex] at h
  split at h
  · rename_i x rest
    cases h
    obtain ⟨ht, hx0, hxb⟩ := hq
    obtain ⟨k1, k2, hlk, hov⟩ := jt_aa hf
    have hc1 := hP.1
    rw [jm_nc_nw, jm_ns_nw] at hc1
    refine ⟨⟨by omega, by omega, fun z => hc1.2.2.1 z, fun h => absurd (show true = false from (hc1.2.2.2 h).1) (by decide)⟩, fun p e R s m args below meth c H locs cells slots ls c0 s0 hT hlv hwd hS hw hw0 hc hs hz h1 h2 => ?_⟩
    have hts := hT.2.2.2.2.2.2.2.1
    have hK := hT.2.2.2.2.2.2.2.2.1
    have hown := hT.2.2.2.2.2.2.1
    rw [← jt_on] at hown
    have hH : ∀ z, H0.size ≤ z → b0 ≤ z := fun z hz => by have := hT.2.2.2.2.2.2.2.2.2.2.2.2.2.2.2; omega
    refine va_newq hT.1 hT.2.1 hown (hts _ hlk) (va_AO.of (hts _ hov)) hK hwd.1 (jm_D b0 sc dA σ) hS hH hx0 rfl (by omega) (by omega) (by omega) hd (fun q0 cA H1 g0 g1 g2 g3 => ?_)
    have := jt_cA (jt_tyc k1 k2) hK g0
    subst this
    refine jm_born hP ht hT hlv hwd hc hs hz h1 h2 g1 g2 g3 ?_
    rw [jm_e_ref (a := a) (by rw [jm_nw_k]) k1, jm_nw_R, jm_nw_k]
    rfl
  · cases h
theorem jx_objInit {idx : Nat} (hd : decode (jt_by mi) pc = .ok (.invokespecial idx, nx - pc)) (hg : jm_gi mi pc nx a b cv tl (.invokespecial idx) = true) (h : jm_ex d mi al st w σ nx a b cv tl (.invokespecial idx) = some (cf', q)) (hq : q) (hP : jm_P l b0 sc L xs H0 D dA cf' r) : jm_PP l b0 sc L xs H0 D dA d mi pc al st w σ r.1 r.2.1 r.2.2 := by
  simp only [jm_ex] at h
  by_cases ha9 : a = 999
  · simp only [jm_gi, Bool.and_eq_true, beq_iff_eq, if_pos ha9, jt_ok, decide_eq_true_eq] at hg
    rw [if_pos ha9] at h
    obtain ⟨rfl, hob⟩ := hg
    rw [Nat.add_sub_cancel_left] at hd
    split at h
    · rename_i q0 rest
      cases h
      obtain ⟨h1d, hcat, hq0⟩ := hq
      refine jm_go hP fun p e R s m args below meth c H locs cells slots Q ls hT hlv hwd hS k => ?_
      have hown := hT.2.2.2.2.2.2.1
      rw [← jt_on] at hown
      have hts := hT.2.2.2.2.2.2.2.1
      have hroom : 2 * (F0 m pc ls ((Value.ref q0 :: rest).map (jm_v b0 sc))).monitorRoom + ((rest.map (jm_v b0 sc)).map fun v => v.category).sum ≤ 8 := lv_room (by rw [jm_catm]; exact hcat)
      have k1 := hT.2.2.2.2.2.2.2.2.2.1
      have k2 := hT.2.2.2.2.2.2.2.2.2.2.1
      refine W.objInit hT.1 hT.2.1 hown (hts _ (jt_ob_ok _ hob)) (hts _ jt_oi) (hts _ jt_oc0) rfl (hlv.1.trans hT.2.2.1.symm) (a := jm_ad b0 sc q0) (rest := rest.map (jm_v b0 sc)) ?_ hd (by omega) (by omega) (k ls hlv)
      show (Value.ref q0 :: rest).map (jm_v b0 sc) = _
      rw [List.map_cons, jm_v_r (fun z => by rw [z] at hq0; exact absurd hq0 (by decide))]
    · cases h
  · rw [if_neg ha9] at h
    cases h
end
