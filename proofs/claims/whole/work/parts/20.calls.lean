/-! the three calls -/
theorem jt_goodc {y : Nat} (h : Cond.code (jt_nm y) (jt_by y) (jt_ml y) (jt_rt y) ∈ jt_tb) : GoodIn jt_tb [Cond.code (jt_nm y) (jt_by y) (jt_ml y) (jt_rt y)] := by
  intro w hw
  rw [List.mem_singleton] at hw
  subst hw
  exact ⟨h, Or.inl rfl⟩
theorem jm_mapr {b0 sc b q0 : Nat} {st rest : List Value} (h : st.drop b = .ref q0 :: rest) (h0 : q0 ≠ 0) : st.map (jm_v b0 sc) = (((st.take b).reverse).map (jm_v b0 sc)).reverse ++ .ref (jm_ad b0 sc q0) :: rest.map (jm_v b0 sc) := by
  have e : st = st.take b ++ .ref q0 :: rest := by rw [← h, List.take_append_drop]
  conv => lhs; rw [e]
  rw [List.map_append, List.map_cons, jm_v_r h0, List.map_reverse, List.reverse_reverse]
theorem jm_maps {b0 sc b : Nat} {st : List Value} : st.map (jm_v b0 sc) = (((st.take b).reverse).map (jm_v b0 sc)).reverse ++ (st.drop b).map (jm_v b0 sc) := by
  rw [List.map_reverse, List.reverse_reverse, ← List.map_append, List.take_append_drop]
section
variable {l : Launch} {b0 sc L : Nat} {xs : Nat → Int32} {H0 : Heap} {D : va_G} {dA : Nat → ClassId} {d mi pc nx a b y : Nat} {cv : Int32} {tl : List Nat} {al : List (Option Value)} {st as rest : List Value} {w w1 w2 : Bool} {σ σ1 σ2 : jm_S} {out : Option Value ⊕ Nat} {v : Option Value} {q : Prop}
theorem jz_virtual {idx : Nat} (hl : ∀ e : Env, l.admits e → e.platform.stackTraces = false) (hd : decode (jt_by mi) pc = .ok (.invokevirtual idx, nx - pc)) (hg : jm_gi mi pc nx a b cv tl (.invokevirtual idx) = true) (h : jm_kx st σ a b tl (.invokevirtual idx) = some (y, as, rest, q)) (hc1 : jm_c1 as = true) (hn1 : as.length ≤ jt_ml y) (hq : q)
    (hPa : jm_PP l b0 sc L xs H0 D dA d y 0 (jm_en y as) [] false σ (.inl v) σ1 w1) (hP2 : jm_PP l b0 sc L xs H0 D dA (d + 1) mi nx al (v.toList ++ rest) (w || w1) σ1 out σ2 w2) : jm_PP l b0 sc L xs H0 D dA (d + 1) mi pc al st w σ out σ2 w2 := by
  simp only [jm_gi, Bool.and_eq_true, beq_iff_eq, jt_ck, decide_eq_true_eq] at hg
  obtain ⟨rfl, hy, hcv⟩ := hg
  rw [Nat.add_sub_cancel_left] at hd
  simp only [jm_kx] at h
  split at h
  · rename_i q0 r0 hdrop
    cases h
    obtain ⟨hcat, hok⟩ := hq
    obtain ⟨⟨-, hml7, hpl, hm1, hm2, hdesc⟩, hini⟩ := jt_y_ok _ hy
    replace hml7 : jt_ml a ≤ 17 := hml7
    obtain ⟨hlk, hins, hsel, hcls, ht6, hyc⟩ := jt_cv_ok _ hcv
    replace ht6 : tl.getD 0 0 < 6 := ht6
    obtain ⟨hhh, -, hcw⟩ := jt_yc_ok _ hyc
    obtain ⟨hcl, -⟩ := jt_c6 ht6
    have hq0 : q0 ≠ 0 := fun z => by have h1 := hok.1; rw [z] at h1; exact absurd h1 (by decide)
    have hbl : b ≤ st.length := by
      rcases Nat.lt_or_ge b st.length with h | h
      · omega
      · rw [List.drop_eq_nil_of_le h] at hdrop; cases hdrop
    refine ⟨⟨Nat.le_trans hPa.1.1 hP2.1.1, Nat.le_trans hPa.1.2.1 hP2.1.2.1, fun z => hPa.1.2.2.1 (hP2.1.2.2.1 z), jm_or hPa.1.2.2.2 hP2.1.2.2.2⟩, fun p e R s m args below meth c H locs cells slots ls c0 s0 hT hlv hwd hS hw hw0 hc hs hz h1 h2 T hT1 X => ?_⟩
    have hsz : σ.2.2.2.2.2.2 = 0 → H.size ≤ b0 + jm_nc σ := fun z => by
      have k1 := X.heapSize
      have k2 := hz z
      rw [hT1] at k1
      omega
    have hown := hT.2.2.2.2.2.2.1
    rw [← jt_on] at hown
    have hts := hT.2.2.2.2.2.2.2.1
    have hR : (jm_rm d (jm_nc σ1 - jm_nc σ) (jm_ns σ1 - jm_ns σ)).frames + 1 ≤ R.frames ∧ 8 + (jt_ml a + 11) + (jm_rm d (jm_nc σ1 - jm_nc σ) (jm_ns σ1 - jm_ns σ)).locals ≤ R.locals := by
      have k1 := hT.2.2.2.2.2.2.2.2.2.1
      have k2 := hT.2.2.2.2.2.2.2.2.2.2.1
      exact ⟨by show d + 1 ≤ _; omega, by show _ + (36 * d) ≤ _; omega⟩
    have hat := jm_ws_at (b0 := b0) (sc := sc) (dA := dA) hok.1 hok.2.1
    rw [jm_e_obj hok.2.2 (by omega)] at hat
    have hrec := va_recv hT.2.2.2.2.2.2.2.2.1 hwd.1 hcl hat
    have hM := jm_met hl hPa hc1 hn1 hpl hhh
    have hf : cells + (jm_nc σ1 - jm_nc σ) ≤ R.cells ∧ slots + (jm_ns σ1 - jm_ns σ) ≤ R.slots := by
      have k1 := hPa.1
      have k2 := hP2.1
      constructor <;> omega
    have hPre : PreV s H (jt_R (tl.getD 0 0)) (jm_ad b0 sc q0) (jm_Pc b0 sc L xs H0 D dA σ (.ref q0 :: (st.take b).reverse)) (((st.take b).reverse).map (jm_v b0 sc)) :=
      ⟨jm_blind b0 sc L xs H0 D dA σ _, hrec, fun U hU hW => jm_pre hT hwd hS (by rw [List.map_cons, jm_v_r hq0]) hU hW hsz⟩
    have hlen : (((st.take b).reverse).map (jm_v b0 sc)).length = b := by simp; omega
    have hstack : (F0 m pc ls (st.map (jm_v b0 sc))).stack = (((st.take b).reverse).map (jm_v b0 sc)).reverse ++ .ref (jm_ad b0 sc q0) :: rest.map (jm_v b0 sc) := jm_mapr hdrop hq0
    have hroom : 2 * (F0 m pc ls (st.map (jm_v b0 sc))).monitorRoom + ((rest.map (jm_v b0 sc)).map fun v => v.category).sum ≤ 8 := lv_room (by rw [jm_catm]; exact hcat)
    have Sx : CallFix p m c (jt_by mi) (jt_ml mi) s args jt_tb (jt_cn (jt_oc mi)) := ⟨hT.1, hT.2.1, hT.2.2.1, hown, hts⟩
    rcases hlk with hlk | hlk
    · exact jm_back (va_runV Sx hM ⟨callB_of b hts (jt_goodc hcw) rfl rfl rfl (hts _ hini) (hts _ hlk) ⟨hm1, hm2, hdesc⟩ hR, hts _ hins, hts _ hsel⟩ hPre rfl hlen hlv.1 hstack hroom hd hf) hP2 hPa.1 hT hlv hS hw hw0 hc hs hz h1 h2 T hT1 X
    · exact jm_back (va_runVN Sx hM ⟨va_cnB b hts (jt_goodc hcw) rfl rfl rfl (va_tabs rfl rfl (hts _ hlk)) (hts _ hini) ⟨hm1, hm2, hdesc⟩ hR, hts _ hins, hts _ hsel⟩ hPre rfl hlen hlv.1 hstack hroom hd hf) hP2 hPa.1 hT hlv hS hw hw0 hc hs hz h1 h2 T hT1 X
  · cases h
theorem jz_special {idx : Nat} (hl : ∀ e : Env, l.admits e → e.platform.stackTraces = false) (hd : decode (jt_by mi) pc = .ok (.invokespecial idx, nx - pc)) (hg : jm_gi mi pc nx a b cv tl (.invokespecial idx) = true) (h : jm_kx st σ a b tl (.invokespecial idx) = some (y, as, rest, q)) (hc1 : jm_c1 as = true) (hn1 : as.length ≤ jt_ml y) (hq : q)
    (hPa : jm_PP l b0 sc L xs H0 D dA d y 0 (jm_en y as) [] false σ (.inl v) σ1 w1) (hP2 : jm_PP l b0 sc L xs H0 D dA (d + 1) mi nx al (v.toList ++ rest) (w || w1) σ1 out σ2 w2) : jm_PP l b0 sc L xs H0 D dA (d + 1) mi pc al st w σ out σ2 w2 := by
  simp only [jm_kx] at h
  by_cases ha9 : a = 999
  · rw [if_pos ha9] at h; cases h
  rw [if_neg ha9] at h
  simp only [jm_gi, Bool.and_eq_true, beq_iff_eq, if_neg ha9, jt_ck, decide_eq_true_eq] at hg
  obtain ⟨rfl, hy, hci⟩ := hg
  rw [Nat.add_sub_cancel_left] at hd
  split at h
  · rename_i q0 r0 hdrop
    cases h
    obtain ⟨hcat, hok⟩ := hq
    obtain ⟨⟨-, hml7, hpl, hm1, hm2, hdesc⟩, hini⟩ := jt_y_ok _ hy
    replace hml7 : jt_ml a ≤ 17 := hml7
    obtain ⟨hlk, hins, hnam, hrt, hyc⟩ := jt_ci_ok _ hci
    obtain ⟨hhh, -, hcw⟩ := jt_yc_ok _ hyc
    have hq0 : q0 ≠ 0 := fun z => by rw [z] at hok; exact absurd hok (by decide)
    have hbl : b ≤ st.length := by
      rcases Nat.lt_or_ge b st.length with h | h
      · omega
      · rw [List.drop_eq_nil_of_le h] at hdrop; cases hdrop
    refine ⟨⟨Nat.le_trans hPa.1.1 hP2.1.1, Nat.le_trans hPa.1.2.1 hP2.1.2.1, fun z => hPa.1.2.2.1 (hP2.1.2.2.1 z), jm_or hPa.1.2.2.2 hP2.1.2.2.2⟩, fun p e R s m args below meth c H locs cells slots ls c0 s0 hT hlv hwd hS hw hw0 hc hs hz h1 h2 T hT1 X => ?_⟩
    have hsz : σ.2.2.2.2.2.2 = 0 → H.size ≤ b0 + jm_nc σ := fun z => by
      have k1 := X.heapSize
      have k2 := hz z
      rw [hT1] at k1
      omega
    have hown := hT.2.2.2.2.2.2.1
    rw [← jt_on] at hown
    have hts := hT.2.2.2.2.2.2.2.1
    have hR : (jm_rm d (jm_nc σ1 - jm_nc σ) (jm_ns σ1 - jm_ns σ)).frames + 1 ≤ R.frames ∧ 8 + (jt_ml a + 11) + (jm_rm d (jm_nc σ1 - jm_nc σ) (jm_ns σ1 - jm_ns σ)).locals ≤ R.locals := by
      have k1 := hT.2.2.2.2.2.2.2.2.2.1
      have k2 := hT.2.2.2.2.2.2.2.2.2.2.1
      exact ⟨by show d + 1 ≤ _; omega, by show _ + (36 * d) ≤ _; omega⟩
    have hM := jm_met hl hPa hc1 hn1 hpl hhh
    rw [hrt] at hM hcw
    have hf : cells + (jm_nc σ1 - jm_nc σ) ≤ R.cells ∧ slots + (jm_ns σ1 - jm_ns σ) ≤ R.slots := by
      have k1 := hPa.1
      have k2 := hP2.1
      constructor <;> omega
    have hPre : PreS s H (jm_Pc b0 sc L xs H0 D dA σ (.ref q0 :: (st.take b).reverse)) (.ref (jm_ad b0 sc q0) :: ((st.take b).reverse).map (jm_v b0 sc)) :=
      ⟨jm_blind b0 sc L xs H0 D dA σ _, fun U hU hW => jm_pre hT hwd hS (by rw [List.map_cons, jm_v_r hq0]) hU hW hsz⟩
    have hlen : (((st.take b).reverse).map (jm_v b0 sc)).length = b := by simp; omega
    have hstack : (F0 m pc ls (st.map (jm_v b0 sc))).stack = (((st.take b).reverse).map (jm_v b0 sc)).reverse ++ .ref (jm_ad b0 sc q0) :: rest.map (jm_v b0 sc) := jm_mapr hdrop hq0
    have hroom : 2 * (F0 m pc ls (st.map (jm_v b0 sc))).monitorRoom + ((rest.map (jm_v b0 sc)).map fun v => v.category).sum ≤ 8 := lv_room (by rw [jm_catm]; exact hcat)
    have Sx : CallFix p m c (jt_by mi) (jt_ml mi) s args jt_tb (jt_cn (jt_oc mi)) := ⟨hT.1, hT.2.1, hT.2.2.1, hown, hts⟩
    have hG : GoodIn jt_tb [Cond.code (jt_nm a) (jt_by a) (jt_ml a) none] := by
      have := jt_goodc (y := a) (by rw [hrt]; exact hcw)
      rw [hrt] at this
      exact this
    rcases hlk with hlk | hlk
    · exact jm_back (va_runI Sx hM ⟨callB_of b hts hG rfl rfl rfl (hts _ hini) (hts _ hlk) ⟨hm1, hm2, hdesc⟩ hR, hnam, hts _ hins⟩ hPre rfl hlen hlv.1 hstack hroom hd hf) hP2 hPa.1 hT hlv hS hw hw0 hc hs hz h1 h2 T hT1 X
    · exact jm_back (va_runIN Sx hM ⟨va_cnB b hts hG rfl rfl rfl (va_tabs rfl rfl (hts _ hlk)) (hts _ hini) ⟨hm1, hm2, hdesc⟩ hR, hnam, hts _ hins⟩ hPre rfl hlen hlv.1 hstack hroom hd hf) hP2 hPa.1 hT hlv hS hw hw0 hc hs hz h1 h2 T hT1 X
  · cases h
end
