section
variable {l : Launch} {b0 sc L : Nat} {xs : Nat → Int32} {H0 : Heap} {D : va_G} {dA : Nat → ClassId} {d mi pc nx a b : Nat} {cv : Int32} {tl : List Nat} {al : List (Option Value)} {st : List Value} {w : Bool} {σ : jm_S} {cf' : jm_Cf} {q : Prop} {r : jm_Rs}
theorem jx_iaload (hd : decode (jt_by mi) pc = .ok (.iaload, nx - pc)) (hg : jm_gi mi pc nx a b cv tl (.iaload) = true) (h : jm_ex d mi al st w σ nx a b cv tl (.iaload) = some (cf', q)) (hq : q) (hP : jm_P l b0 sc L xs H0 D dA cf' r) : jm_PP l b0 sc L xs H0 D dA d mi pc al st w σ r.1 r.2.1 r.2.2 := by
  simp only [jm_gi, Bool.and_eq_true, beq_iff_eq, decide_eq_true_eq] at hg
  simp only [jm_ex] at h
  subst hg
  rw [Nat.add_sub_cancel_left] at hd
  split at h
  · rename_i i q0 rest
    cases h
    obtain ⟨hr, hk, hi⟩ := hq
    refine jm_go hP fun p e R s m args below meth c H locs cells slots Q ls hT hlv hwd hS k => ?_
    have hk2 := k ls hlv
    rcases hr with rfl | ⟨h2, h3⟩
    · have hk1 := hwd.2.1
      rw [hk1] at hi
      have hlt : i.toNatClampNeg < L := Nat.not_le.mp fun z => hi (Or.inr z)
      have hv : σ.2.2.2.1 1 i.toNatClampNeg = xs i.toNatClampNeg := hwd.2.2 _ hlt
      rw [List.map_cons, hv] at hk2
      obtain ⟨hX, hsc, hz⟩ := hT.2.2.2.2.2.2.2.2.2.2.2.2.2
      exact va_sld hT.1 hT.2.1 hX (by rw [hz]; exact hsc) (by omega) hS hi hd hk2
    · have hat := jm_ws_at (b0 := b0) (sc := sc) (dA := dA) h2 h3
      rw [jm_e_int hk (by omega) (by omega)] at hat
      rw [List.map_cons, List.map_cons, jm_v_r (k := q0) (by omega)]
      exact va_iald hT.1 hT.2.1 hT.2.2.2.2.2.2.2.2.1 hwd.1 (q0 - 2) 0 hat rfl hi hd hk2
  · cases h
theorem jx_baload (hd : decode (jt_by mi) pc = .ok (.baload, nx - pc)) (hg : jm_gi mi pc nx a b cv tl (.baload) = true) (h : jm_ex d mi al st w σ nx a b cv tl (.baload) = some (cf', q)) (hq : q) (hP : jm_P l b0 sc L xs H0 D dA cf' r) : jm_PP l b0 sc L xs H0 D dA d mi pc al st w σ r.1 r.2.1 r.2.2 := by
  simp only [jm_gi, Bool.and_eq_true, beq_iff_eq, decide_eq_true_eq] at hg
  simp only [jm_ex] at h
  subst hg
  rw [Nat.add_sub_cancel_left] at hd
  split at h
  · rename_i i q0 rest
    cases h
    obtain ⟨hok, hi⟩ := hq
    refine jm_go hP fun p e R s m args below meth c H locs cells slots Q ls hT hlv hwd hS k => ?_
    have hat := jm_ws_at (b0 := b0) (sc := sc) (dA := dA) hok.1 hok.2.1
    rw [jm_e_int hok.2.2 (by omega) (by omega)] at hat
    rw [List.map_cons, List.map_cons, jm_v_r (k := q0) (by have := hok.1; omega)]
    exact va_zald hT.1 hT.2.1 hT.2.2.2.2.2.2.2.2.1 hwd.1 (q0 - 2) 1 hat rfl hi hd (k ls hlv)
  · cases h
theorem jx_laload (hd : decode (jt_by mi) pc = .ok (.laload, nx - pc)) (hg : jm_gi mi pc nx a b cv tl (.laload) = true) (h : jm_ex d mi al st w σ nx a b cv tl (.laload) = some (cf', q)) (hq : q) (hP : jm_P l b0 sc L xs H0 D dA cf' r) : jm_PP l b0 sc L xs H0 D dA d mi pc al st w σ r.1 r.2.1 r.2.2 := by
  simp only [jm_gi, Bool.and_eq_true, beq_iff_eq, decide_eq_true_eq] at hg
  simp only [jm_ex] at h
  subst hg
  rw [Nat.add_sub_cancel_left] at hd
  split at h
  · rename_i i q0 rest
    cases h
    obtain ⟨hok, hi⟩ := hq
    refine jm_go hP fun p e R s m args below meth c H locs cells slots Q ls hT hlv hwd hS k => ?_
    have hat := jm_ws_at (b0 := b0) (sc := sc) (dA := dA) hok.1 hok.2.1
    rw [jm_e_long hok.2.2] at hat
    rw [List.map_cons, List.map_cons, jm_v_r (k := q0) (by have := hok.1; omega)]
    exact va_lald hT.1 hT.2.1 hT.2.2.2.2.2.2.2.2.1 hwd.1 (q0 - 2) 2 hat rfl hi hd (k ls hlv)
  · cases h
theorem jx_aaload (hd : decode (jt_by mi) pc = .ok (.aaload, nx - pc)) (hg : jm_gi mi pc nx a b cv tl (.aaload) = true) (h : jm_ex d mi al st w σ nx a b cv tl (.aaload) = some (cf', q)) (hq : q) (hP : jm_P l b0 sc L xs H0 D dA cf' r) : jm_PP l b0 sc L xs H0 D dA d mi pc al st w σ r.1 r.2.1 r.2.2 := by
  simp only [jm_gi, Bool.and_eq_true, beq_iff_eq, decide_eq_true_eq] at hg
  simp only [jm_ex] at h
  subst hg
  rw [Nat.add_sub_cancel_left] at hd
  split at h
  · rename_i i q0 rest
    cases h
    obtain ⟨⟨hok, hi⟩, h13, h17⟩ := hq
    refine jm_go hP fun p e R s m args below meth c H locs cells slots Q ls hT hlv hwd hS k => ?_
    have hat := jm_ws_at (b0 := b0) (sc := sc) (dA := dA) hok.1 hok.2.1
    rw [jm_e_ref rfl h13] at hat
    have hk2 := k ls hlv
    rw [List.map_cons, ← jm_v_rf] at hk2
    rw [List.map_cons, List.map_cons, jm_v_r (k := q0) (by have := hok.1; omega)]
    obtain ⟨C, hC⟩ := jt_tyr (dA := dA) h13 h17
    exact va_aldq hT.1 hT.2.1 hT.2.2.2.2.2.2.2.2.1 hwd.1 (q0 - 2) _ hat hC hi hd hk2
  · cases h
theorem jx_iastore (hd : decode (jt_by mi) pc = .ok (.iastore, nx - pc)) (hg : jm_gi mi pc nx a b cv tl (.iastore) = true) (h : jm_ex d mi al st w σ nx a b cv tl (.iastore) = some (cf', q)) (hq : q) (hP : jm_P l b0 sc L xs H0 D dA cf' r) : jm_PP l b0 sc L xs H0 D dA d mi pc al st w σ r.1 r.2.1 r.2.2 := by
  simp only [jm_gi, Bool.and_eq_true, beq_iff_eq, decide_eq_true_eq] at hg
  simp only [jm_ex] at h
  subst hg
  rw [Nat.add_sub_cancel_left] at hd
  split at h
  · rename_i x i q0 rest
    cases h
    obtain ⟨hok, hi⟩ := hq
    refine jm_goW hP rfl rfl rfl fun p e R s m args below meth c H locs cells slots Q ls hT hwd hS k => ?_
    have hat := jm_ws_at (b0 := b0) (sc := sc) (dA := dA) hok.1 hok.2.1
    rw [jm_e_int hok.2.2 (by omega) (by omega)] at hat
    rw [List.map_cons, List.map_cons, List.map_cons, jm_v_r (k := q0) (by have := hok.1; omega)]
    exact va_iast hT.1 hT.2.1 hT.2.2.2.2.2.2.2.2.1 hwd.1 (jm_D b0 sc dA σ) hS (q0 - 2) 0 hat rfl hi hd (fun H1 locs1 g1 _ g3 => k H1 locs1 (jm_wdI hok.1 hok.2.1 hwd (by rw [jm_e_int (σ := jm_sI σ (jm_up σ.2.2.2.1 q0 i.toNatClampNeg x)) hok.2.2 (by omega) (by omega)]; simp only [jm_sI, jm_up_row]) g1) g3)
  · cases h
theorem jx_bastore (hd : decode (jt_by mi) pc = .ok (.bastore, nx - pc)) (hg : jm_gi mi pc nx a b cv tl (.bastore) = true) (h : jm_ex d mi al st w σ nx a b cv tl (.bastore) = some (cf', q)) (hq : q) (hP : jm_P l b0 sc L xs H0 D dA cf' r) : jm_PP l b0 sc L xs H0 D dA d mi pc al st w σ r.1 r.2.1 r.2.2 := by
  simp only [jm_gi, Bool.and_eq_true, beq_iff_eq, decide_eq_true_eq] at hg
  simp only [jm_ex] at h
  subst hg
  rw [Nat.add_sub_cancel_left] at hd
  split at h
  · rename_i x i q0 rest
    cases h
    obtain ⟨⟨hok, hi⟩, hx⟩ := hq
    refine jm_goW hP rfl rfl rfl fun p e R s m args below meth c H locs cells slots Q ls hT hwd hS k => ?_
    have hat := jm_ws_at (b0 := b0) (sc := sc) (dA := dA) hok.1 hok.2.1
    rw [jm_e_int hok.2.2 (by omega) (by omega)] at hat
    have hnx : vp_nar .boolean x = x := by rcases hx with rfl | rfl <;> decide
    rw [List.map_cons, List.map_cons, List.map_cons, jm_v_r (k := q0) (by have := hok.1; omega)]
    exact va_zast hT.1 hT.2.1 hT.2.2.2.2.2.2.2.2.1 hwd.1 (jm_D b0 sc dA σ) hS (q0 - 2) 1 hat rfl hi hd (fun H1 locs1 g1 _ g3 => k H1 locs1 (jm_wdI hok.1 hok.2.1 hwd (by rw [jm_e_int (σ := jm_sI σ (jm_up σ.2.2.2.1 q0 i.toNatClampNeg x)) hok.2.2 (by omega) (by omega), hnx]; simp only [jm_sI, jm_up_row]) g1) g3)
  · cases h
theorem jx_lastore (hd : decode (jt_by mi) pc = .ok (.lastore, nx - pc)) (hg : jm_gi mi pc nx a b cv tl (.lastore) = true) (h : jm_ex d mi al st w σ nx a b cv tl (.lastore) = some (cf', q)) (hq : q) (hP : jm_P l b0 sc L xs H0 D dA cf' r) : jm_PP l b0 sc L xs H0 D dA d mi pc al st w σ r.1 r.2.1 r.2.2 := by
  simp only [jm_gi, Bool.and_eq_true, beq_iff_eq, decide_eq_true_eq] at hg
  simp only [jm_ex] at h
  subst hg
  rw [Nat.add_sub_cancel_left] at hd
  split at h
  · rename_i x i q0 rest
    cases h
    obtain ⟨hok, hi⟩ := hq
    refine jm_goW hP rfl rfl rfl fun p e R s m args below meth c H locs cells slots Q ls hT hwd hS k => ?_
    have hat := jm_ws_at (b0 := b0) (sc := sc) (dA := dA) hok.1 hok.2.1
    rw [jm_e_long hok.2.2] at hat
    rw [List.map_cons, List.map_cons, List.map_cons, jm_v_r (k := q0) (by have := hok.1; omega)]
    exact va_last hT.1 hT.2.1 hT.2.2.2.2.2.2.2.2.1 hwd.1 (jm_D b0 sc dA σ) hS (q0 - 2) 2 hat rfl hi hd (fun H1 locs1 g1 _ g3 => k H1 locs1 (jm_wdL hok.1 hok.2.1 hwd (by rw [jm_e_long (σ := jm_sL σ (jm_up σ.2.2.2.2.1 q0 i.toNatClampNeg x)) hok.2.2]; simp only [jm_sL, jm_up_rowL]) g1) g3)
  · cases h
theorem jx_aastore (hd : decode (jt_by mi) pc = .ok (.aastore, nx - pc)) (hg : jm_gi mi pc nx a b cv tl (.aastore) = true) (h : jm_ex d mi al st w σ nx a b cv tl (.aastore) = some (cf', q)) (hq : q) (hP : jm_P l b0 sc L xs H0 D dA cf' r) : jm_PP l b0 sc L xs H0 D dA d mi pc al st w σ r.1 r.2.1 r.2.2 := by
  simp only [jm_gi, Bool.and_eq_true, beq_iff_eq, decide_eq_true_eq] at hg
  simp only [jm_ex] at h
  subst hg
  rw [Nat.add_sub_cancel_left] at hd
  split at h
  · rename_i v i q0 rest
    cases h
    obtain ⟨⟨hok, hi⟩, h13, h17, hv⟩ := hq
    refine jm_goW hP rfl rfl rfl fun p e R s m args below meth c H locs cells slots Q ls hT hwd hS k => ?_
    have hat := jm_ws_at (b0 := b0) (sc := sc) (dA := dA) hok.1 hok.2.1
    rw [jm_e_ref rfl h13] at hat
    have hvt := jm_ws_at (b0 := b0) (sc := sc) (dA := dA) hv.1 hv.2.1
    rw [jm_e_obj hv.2.2 (by omega)] at hvt
    obtain ⟨hcl, -⟩ := jt_c6 (a := (σ.2.1 q0).1 - 12) (by omega)
    have hty := jt_tyc (dA := dA) h13 h17
    rw [List.map_cons, List.map_cons, List.map_cons, jm_v_r (k := q0) (by have := hok.1; omega), jm_v_r (k := v) (by have := hv.1; omega)]
    exact va_astq hT.1 hT.2.1 hT.2.2.2.2.2.2.2.2.1 hwd.1 (jm_D b0 sc dA σ) hS (q0 - 2) _ (v - 2) _ hat hty hvt hcl hi hd (fun H1 locs1 g1 _ g3 => k H1 locs1 (jm_wdR hok.1 hok.2.1 hwd (by
      rw [jm_e_ref (σ := jm_sR σ (jm_up σ.2.2.1 q0 i.toNatClampNeg v)) rfl h13]
      show _ = Sum.inl (_, _, Sum.inr (Sum.inr (Sum.inr (Sum.inr (fun j => jm_rv b0 sc (jm_up σ.2.2.1 q0 i.toNatClampNeg v q0 j))))))
      have hf : va_up (fun j => jm_rv b0 sc (σ.2.2.1 q0 j)) i.toNatClampNeg (some (jm_ad b0 sc v)) = fun j => jm_rv b0 sc (jm_up σ.2.2.1 q0 i.toNatClampNeg v q0 j) := by
        funext j
        by_cases hj : j = i.toNatClampNeg
        · subst hj
          have hv0 : v ≠ 0 := fun z => by have h1 := hv.1; rw [z] at h1; exact absurd h1 (by decide)
          simp [va_up, jm_up, jm_rv, hv0]
        · simp [va_up, jm_up, hj]
      rw [hf]
      rfl) g1) g3)
  · cases h
theorem jx_arraylength (hd : decode (jt_by mi) pc = .ok (.arraylength, nx - pc)) (hg : jm_gi mi pc nx a b cv tl (.arraylength) = true) (h : jm_ex d mi al st w σ nx a b cv tl (.arraylength) = some (cf', q)) (hq : q) (hP : jm_P l b0 sc L xs H0 D dA cf' r) : jm_PP l b0 sc L xs H0 D dA d mi pc al st w σ r.1 r.2.1 r.2.2 := by
  simp only [jm_gi, Bool.and_eq_true, beq_iff_eq, decide_eq_true_eq] at hg
  simp only [jm_ex] at h
  subst hg
  rw [Nat.add_sub_cancel_left] at hd
  split at h
  · rename_i q0 rest
    cases h
    refine jm_go hP fun p e R s m args below meth c H locs cells slots Q ls hT hlv hwd hS k => ?_
    have hk2 := k ls hlv
    rcases hq with rfl | ⟨h2, h3, h10, h17⟩
    · have hk1 := hwd.2.1
      rw [hk1] at hk2
      obtain ⟨hX, hsc, hz⟩ := hT.2.2.2.2.2.2.2.2.2.2.2.2.2
      exact va_slen (b := sc) hT.1 hT.2.1 hX (by rw [hz]; exact hsc) (by omega) hS hd hk2
    · have hat := jm_ws_at (b0 := b0) (sc := sc) (dA := dA) h2 h3
      rw [List.map_cons, jm_v_r (k := q0) (fun z => by rw [z] at h2; exact absurd h2 (by decide))]
      obtain ⟨ty, hty⟩ := jt_tya (dA := dA) h10 h17
      have hx : ∃ x : vp_A, jm_e b0 sc dA σ q0 = .inl (dA (σ.2.1 q0).1, x) ∧ x.1 = (σ.2.1 q0).2 := by
        by_cases g1 : (σ.2.1 q0).1 < 12
        · exact ⟨_, jm_e_int rfl h10 g1, rfl⟩
        · by_cases g2 : (σ.2.1 q0).1 = 12
          · rw [jm_e_long g2, g2]; exact ⟨_, rfl, rfl⟩
          · exact ⟨_, jm_e_ref rfl (by omega), rfl⟩
      obtain ⟨x, hx1, hx2⟩ := hx
      rw [hx1] at hat
      exact va_alen hT.1 hT.2.1 hT.2.2.2.2.2.2.2.2.1 hwd.1 (q0 - 2) _ hat hty (by rw [hx2]) hd hk2
  · cases h
end
