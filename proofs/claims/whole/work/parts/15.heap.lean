/-! the instructions that read and write cells -/
theorem jm_e_obj {b0 sc : Nat} {dA : Nat → ClassId} {σ : jm_S} {q a : Nat} (h : (σ.2.1 q).1 = a) (ha : a < 10) : jm_e b0 sc dA σ q = .inr (a, jm_fv b0 sc σ a q) := by
  unfold jm_e; rw [h, if_pos ha]
theorem jm_e_int {b0 sc : Nat} {dA : Nat → ClassId} {σ : jm_S} {q a : Nat} (h : (σ.2.1 q).1 = a) (h1 : 10 ≤ a) (h2 : a < 12) : jm_e b0 sc dA σ q = .inl (dA a, (σ.2.1 q).2, .inl (σ.2.2.2.1 q)) := by
  unfold jm_e; rw [h, if_neg (by omega), if_pos h2]
theorem jm_e_long {b0 sc : Nat} {dA : Nat → ClassId} {σ : jm_S} {q : Nat} (h : (σ.2.1 q).1 = 12) : jm_e b0 sc dA σ q = .inl (dA 12, (σ.2.1 q).2, .inr (.inl (σ.2.2.2.2.1 q))) := by
  unfold jm_e; rw [h, if_neg (by omega), if_neg (by omega), if_pos rfl]
theorem jm_e_ref {b0 sc : Nat} {dA : Nat → ClassId} {σ : jm_S} {q a : Nat} (h : (σ.2.1 q).1 = a) (h1 : 13 ≤ a) : jm_e b0 sc dA σ q = .inl (dA a, (σ.2.1 q).2, .inr (.inr (.inr (.inr (fun j => jm_rv b0 sc (σ.2.2.1 q j)))))) := by
  unfold jm_e; rw [h, if_neg (by omega), if_neg (by omega), if_neg (by omega)]
theorem jm_fv_at {b0 sc : Nat} {σ : jm_S} {a b q : Nat} (h : b < (jt_ft a).length) : (jm_fv b0 sc σ a q)[b]? = some (if (jt_ft a).getD b 0 = 2 then jm_v b0 sc (.ref (σ.2.2.1 q b)) else .int (σ.2.2.2.1 q b)) := by
  unfold jm_fv
  rw [List.getElem?_map, List.getElem?_range h]
  rfl
theorem jm_fv_len (b0 sc : Nat) (σ : jm_S) (a q : Nat) : (jm_fv b0 sc σ a q).length = (jt_ft a).length := by simp [jm_fv]
theorem jm_fv_none {b0 sc : Nat} {σ : jm_S} {a b q : Nat} (h : ¬ b < (jt_ft a).length) : (jm_fv b0 sc σ a q)[b]? = none := List.getElem?_eq_none (by rw [jm_fv_len]; omega)
theorem jm_fv_I {b0 sc : Nat} {σ : jm_S} {a b q : Nat} {x : Int32} (hb : b < (jt_ft a).length) (ht : (jt_ft a).getD b 0 ≠ 2) : (jm_fv b0 sc σ a q).set b (.int x) = jm_fv b0 sc (jm_sI σ (jm_up σ.2.2.2.1 q b x)) a q := by
  refine List.ext_getElem? fun i => ?_
  by_cases hi : i < (jt_ft a).length
  · rw [jm_fv_at (σ := jm_sI σ (jm_up σ.2.2.2.1 q b x)) hi]
    by_cases hib : i = b
    · subst hib
      rw [List.getElem?_set_self (by rw [jm_fv_len]; exact hi), if_neg ht]
      show _ = some (Value.int (jm_up σ.2.2.2.1 q i x q i))
      rw [jm_up_in]
    · rw [List.getElem?_set_ne (Ne.symm hib), jm_fv_at hi]
      show _ = some (if _ then _ else Value.int (jm_up σ.2.2.2.1 q b x q i))
      rw [jm_up_in_ne hib]
      rfl
  · rw [jm_fv_none hi, List.getElem?_eq_none (by rw [List.length_set, jm_fv_len]; omega)]
theorem jm_fv_R {b0 sc : Nat} {σ : jm_S} {a b q v : Nat} (hb : b < (jt_ft a).length) (ht : (jt_ft a).getD b 0 = 2) : (jm_fv b0 sc σ a q).set b (jm_v b0 sc (.ref v)) = jm_fv b0 sc (jm_sR σ (jm_up σ.2.2.1 q b v)) a q := by
  refine List.ext_getElem? fun i => ?_
  by_cases hi : i < (jt_ft a).length
  · rw [jm_fv_at (σ := jm_sR σ (jm_up σ.2.2.1 q b v)) hi]
    by_cases hib : i = b
    · subst hib
      rw [List.getElem?_set_self (by rw [jm_fv_len]; exact hi), if_pos ht]
      show _ = some (jm_v b0 sc (.ref (jm_up σ.2.2.1 q i v q i)))
      rw [jm_up_in]
    · rw [List.getElem?_set_ne (Ne.symm hib), jm_fv_at hi]
      show _ = some (if _ then jm_v b0 sc (.ref (jm_up σ.2.2.1 q b v q i)) else _)
      rw [jm_up_in_ne hib]
      rfl
  · rw [jm_fv_none hi, List.getElem?_eq_none (by rw [List.length_set, jm_fv_len]; omega)]
theorem jm_fv_oI {b0 sc : Nat} {σ : jm_S} {a b q k : Nat} {x : Int32} (h : k ≠ q) : jm_fv b0 sc (jm_sI σ (jm_up σ.2.2.2.1 q b x)) a k = jm_fv b0 sc σ a k := by
  unfold jm_fv jm_sI
  simp only [jm_up_ne h]
theorem jm_fv_oR {b0 sc : Nat} {σ : jm_S} {a b q k v : Nat} (h : k ≠ q) : jm_fv b0 sc (jm_sR σ (jm_up σ.2.2.1 q b v)) a k = jm_fv b0 sc σ a k := by
  unfold jm_fv jm_sR
  simp only [jm_up_ne h]
theorem jm_e_oI {b0 sc : Nat} {dA : Nat → ClassId} {σ : jm_S} {b q k : Nat} {x : Int32} (h : k ≠ q) : jm_e b0 sc dA (jm_sI σ (jm_up σ.2.2.2.1 q b x)) k = jm_e b0 sc dA σ k := by
  unfold jm_e
  rw [jm_fv_oI h]
  simp only [jm_sI, jm_up_ne h]
  rfl
theorem jm_e_oR {b0 sc : Nat} {dA : Nat → ClassId} {σ : jm_S} {b q k v : Nat} (h : k ≠ q) : jm_e b0 sc dA (jm_sR σ (jm_up σ.2.2.1 q b v)) k = jm_e b0 sc dA σ k := by
  unfold jm_e
  rw [jm_fv_oR h]
  simp only [jm_sR, jm_up_ne h]
theorem jm_fv_oL {b0 sc : Nat} {σ : jm_S} {a k : Nat} {f : Nat → Nat → Int64} : jm_fv b0 sc (jm_sL σ f) a k = jm_fv b0 sc σ a k := rfl
theorem jm_e_oL {b0 sc : Nat} {dA : Nat → ClassId} {σ : jm_S} {b q k : Nat} {x : Int64} (h : k ≠ q) : jm_e b0 sc dA (jm_sL σ (jm_up σ.2.2.2.2.1 q b x)) k = jm_e b0 sc dA σ k := by
  unfold jm_e
  rw [jm_fv_oL]
  simp only [jm_sL, jm_up_ne h]
theorem jm_up_row {f : Nat → Nat → Int32} {q i : Nat} {x : Int32} : jm_up f q i x q = upd (f q) i x := by
  funext j
  by_cases h : j = i <;> simp [jm_up, upd, h]
theorem jm_up_rowL {f : Nat → Nat → Int64} {q i : Nat} {x : Int64} : jm_up f q i x q = vp_updL (f q) i x := by
  funext j
  by_cases h : j = i <;> simp [jm_up, vp_updL, h]
section
variable {l : Launch} {b0 sc L : Nat} {xs : Nat → Int32} {H0 : Heap} {D : va_G} {dA : Nat → ClassId} {d mi pc nx a b : Nat} {cv : Int32} {tl : List Nat} {al : List (Option Value)} {st : List Value} {w : Bool} {σ : jm_S} {cf' : jm_Cf} {q : Prop} {r : jm_Rs}
/-- the world behind a write into a cell -/
theorem jm_wdI {H1 : Heap} {q0 i : Nat} {x : Int32} {e : va_E} (h2 : 2 ≤ q0) (h3 : q0 < σ.1 + 2) (hw : jm_wd b0 sc L xs D dA σ H0) (he : e = jm_e b0 sc dA (jm_sI σ (jm_up σ.2.2.2.1 q0 i x)) q0) (hP : va_P D jt_cl ((jm_ws b0 sc dA σ).set (q0 - 2) (jm_ad b0 sc q0, e)) H1) : jm_wd b0 sc L xs D dA (jm_sI σ (jm_up σ.2.2.2.1 q0 i x)) H1 := by
  refine ⟨?_, hw.2.1, fun j hj => ?_⟩
  · rw [jm_ws_set (σ' := jm_sI σ (jm_up σ.2.2.2.1 q0 i x)) h2 h3 rfl he (fun k hk => jm_e_oI hk)] at hP
    exact hP
  · show jm_up σ.2.2.2.1 q0 i x 1 j = _
    rw [jm_up_ne (by omega)]
    exact hw.2.2 j hj
theorem jm_wdR {H1 : Heap} {q0 i v : Nat} {e : va_E} (h2 : 2 ≤ q0) (h3 : q0 < σ.1 + 2) (hw : jm_wd b0 sc L xs D dA σ H0) (he : e = jm_e b0 sc dA (jm_sR σ (jm_up σ.2.2.1 q0 i v)) q0) (hP : va_P D jt_cl ((jm_ws b0 sc dA σ).set (q0 - 2) (jm_ad b0 sc q0, e)) H1) : jm_wd b0 sc L xs D dA (jm_sR σ (jm_up σ.2.2.1 q0 i v)) H1 := by
  refine ⟨?_, hw.2.1, hw.2.2⟩
  rw [jm_ws_set (σ' := jm_sR σ (jm_up σ.2.2.1 q0 i v)) h2 h3 rfl he (fun k hk => jm_e_oR hk)] at hP
  exact hP
theorem jm_wdL {H1 : Heap} {q0 i : Nat} {x : Int64} {e : va_E} (h2 : 2 ≤ q0) (h3 : q0 < σ.1 + 2) (hw : jm_wd b0 sc L xs D dA σ H0) (he : e = jm_e b0 sc dA (jm_sL σ (jm_up σ.2.2.2.2.1 q0 i x)) q0) (hP : va_P D jt_cl ((jm_ws b0 sc dA σ).set (q0 - 2) (jm_ad b0 sc q0, e)) H1) : jm_wd b0 sc L xs D dA (jm_sL σ (jm_up σ.2.2.2.2.1 q0 i x)) H1 := by
  refine ⟨?_, hw.2.1, hw.2.2⟩
  rw [jm_ws_set (σ' := jm_sL σ (jm_up σ.2.2.2.2.1 q0 i x)) h2 h3 rfl he (fun k hk => jm_e_oL hk)] at hP
  exact hP
theorem jx_getfield {idx : Nat} (hd : decode (jt_by mi) pc = .ok (.getfield idx, nx - pc)) (hg : jm_gi mi pc nx a b cv tl (.getfield idx) = true) (h : jm_ex d mi al st w σ nx a b cv tl (.getfield idx) = some (cf', q)) (hq : q) (hP : jm_P l b0 sc L xs H0 D dA cf' r) : jm_PP l b0 sc L xs H0 D dA d mi pc al st w σ r.1 r.2.1 r.2.2 := by
  simp only [jm_gi, Bool.and_eq_true, beq_iff_eq] at hg
  obtain ⟨rfl, hf⟩ := hg
  rw [Nat.add_sub_cancel_left] at hd
  obtain ⟨ha6, hbN, htl, hlk⟩ := jt_fa hf
  obtain ⟨hcl, hin, hnm, hty, hlen⟩ := jt_c6 ha6
  have hbl : b < (jt_ft a).length := by rw [hlen]; exact hbN
  simp only [jm_ex] at h
  have key : ∀ (q0 : Nat) (rest : List Value) (v : Value), jm_ok σ q0 a → v = (if (jt_ft a).getD b 0 = 2 then .ref (σ.2.2.1 q0 b) else .int (σ.2.2.2.1 q0 b)) → jm_PP l b0 sc L xs H0 D dA d mi (pc + 3) al (v :: rest) w σ r.1 r.2.1 r.2.2 → jm_PP l b0 sc L xs H0 D dA d mi pc al (.ref q0 :: rest) w σ r.1 r.2.1 r.2.2 := by
    intro q0 rest v hok hv hP
    refine jm_go hP fun p e R s m args below meth c H locs cells slots Q ls hT hlv hwd hS k => ?_
    have hat := jm_ws_at (b0 := b0) (sc := sc) (dA := dA) hok.1 hok.2.1
    rw [jm_e_obj hok.2.2 (by omega)] at hat
    have hvv : (jm_fv b0 sc σ a q0)[b]? = some (jm_v b0 sc v) := by
      rw [jm_fv_at hbl, hv]
      split <;> rfl
    have hown := hT.2.2.2.2.2.2.1
    rw [← jt_on] at hown
    rw [List.map_cons, jm_v_r (by have := hok.1; omega)]
    rcases hlk with hlk | hlk
    · exact va_get hT.1 hT.2.1 hT.2.2.2.2.2.2.2.1 hin hown hT.2.2.2.2.2.2.2.2.1 hwd.1 (q0 - 2) hat hcl b hbN (hT.2.2.2.2.2.2.2.1 _ hlk) (fun x hx => hx) hvv hd (k ls hlv)
    · exact va_getN hT.1 hT.2.1 hT.2.2.2.2.2.2.2.1 hin hown hT.2.2.2.2.2.2.2.2.1 hwd.1 (q0 - 2) hat hcl b hbN (hT.2.2.2.2.2.2.2.1 _ hlk) (fun x hx => hx) hvv hd (k ls hlv)
  split at h
  · rename_i q0 rest
    split at h
    · rename_i z
      cases h
      refine key q0 rest _ hq ?_ hP
      have : (jt_ft a).getD b 0 = 2 := by unfold jt_tt at htl; exact (List.cons.inj htl).1.symm
      rw [if_pos this]
    · rename_i hne
      cases h
      refine key q0 rest _ hq ?_ hP
      have : ¬ (jt_ft a).getD b 0 = 2 := fun z => by unfold jt_tt at htl; rw [z] at htl; exact hne _ htl
      rw [if_neg this]
  · cases h
theorem jx_putfield {idx : Nat} (hd : decode (jt_by mi) pc = .ok (.putfield idx, nx - pc)) (hg : jm_gi mi pc nx a b cv tl (.putfield idx) = true) (h : jm_ex d mi al st w σ nx a b cv tl (.putfield idx) = some (cf', q)) (hq : q) (hP : jm_P l b0 sc L xs H0 D dA cf' r) : jm_PP l b0 sc L xs H0 D dA d mi pc al st w σ r.1 r.2.1 r.2.2 := by
  simp only [jm_gi, Bool.and_eq_true, beq_iff_eq] at hg
  obtain ⟨⟨rfl, hf⟩, hfi⟩ := hg
  rw [Nat.add_sub_cancel_left] at hd
  obtain ⟨ha6, hbN, htl, hlk⟩ := jt_fa hf
  obtain ⟨hcl, hin, hnm, hty, hlen⟩ := jt_c6 ha6
  have hbl : b < (jt_ft a).length := by rw [hlen]; exact hbN
  simp only [jm_ex] at h
  have key : ∀ (q0 : Nat) (rest : List Value) (v : Value) (σ' : jm_S), jm_ok σ q0 a → narrow (jt_Y a b) (jm_v b0 sc v) = jm_v b0 sc v → fits (jt_Y a b) (jm_v b0 sc v) = true → jm_nc σ' = jm_nc σ → jm_ns σ' = jm_ns σ → σ'.2.2.2.2.2.2 = σ.2.2.2.2.2.2 →
      (∀ (H H1 : Heap), jm_wd b0 sc L xs D dA σ H → va_P D jt_cl ((jm_ws b0 sc dA σ).set (q0 - 2) (jm_ad b0 sc q0, .inr (a, (jm_fv b0 sc σ a q0).set b (jm_v b0 sc v)))) H1 → jm_wd b0 sc L xs D dA σ' H1) →
      jm_PP l b0 sc L xs H0 D dA d mi (pc + 3) al rest true σ' r.1 r.2.1 r.2.2 → jm_PP l b0 sc L xs H0 D dA d mi pc al (v :: .ref q0 :: rest) w σ r.1 r.2.1 r.2.2 := by
    intro q0 rest v σ' hok hnr hft e1 e2 e3 hwd' hP
    refine jm_goW hP e1 e2 e3 fun p e R s m args below meth c H locs cells slots Q ls hT hwd hS k => ?_
    have hat := jm_ws_at (b0 := b0) (sc := sc) (dA := dA) hok.1 hok.2.1
    rw [jm_e_obj hok.2.2 (by omega)] at hat
    have hown := hT.2.2.2.2.2.2.1
    rw [← jt_on] at hown
    rw [List.map_cons, List.map_cons, jm_v_r (k := q0) (by have := hok.1; omega)]
    have hK := hT.2.2.2.2.2.2.2.2.1
    have hts := hT.2.2.2.2.2.2.2.1
    by_cases hfin : (jt_F a b).2.2.2 = true
    · rw [if_pos hfin] at hfi
      simp only [Bool.and_eq_true, decide_eq_true_eq] at hfi
      exact va_putF hT.1 hT.2.1 hts hin (jt_Y a) hty hnm hown hK hwd.1 (jm_D b0 sc dA σ) hS (q0 - 2) hat hcl b hbN (hts _ (jt_f0 hfi.2)) (fun x hx => hx) hfin (hT.2.2.2.2.2.1.trans hfi.1.1) hfi.1.2 (hty b hbN) hnr hft (by rw [jm_fv_len]; exact hbl) hd (fun H1 locs1 g1 _ g3 => k H1 locs1 (hwd' H H1 hwd g1) g3)
    · rw [Bool.not_eq_true] at hfin
      rcases hlk with hlk | hlk
      · exact va_put hT.1 hT.2.1 hts hin (jt_Y a) hty hnm hown hK hwd.1 (jm_D b0 sc dA σ) hS (q0 - 2) hat hcl b hbN (hts _ hlk) (fun x hx => hx) hfin (hty b hbN) hnr hft (by rw [jm_fv_len]; exact hbl) hd (fun H1 locs1 g1 _ g3 => k H1 locs1 (hwd' H H1 hwd g1) g3)
      · exact va_putN hT.1 hT.2.1 hts hin (jt_Y a) hty hnm hown hK hwd.1 (jm_D b0 sc dA σ) hS (q0 - 2) hat hcl b hbN (hts _ hlk) (fun x hx => hx) hfin (hty b hbN) hnr hft (by rw [jm_fv_len]; exact hbl) hd (fun H1 locs1 g1 _ g3 => k H1 locs1 (hwd' H H1 hwd g1) g3)
  have hhd : ∀ {z : Nat} {zs : List Nat}, tl = z :: zs → (jt_ft a).getD b 0 = z := fun {z zs} e => by
    unfold jt_tt at htl; rw [e] at htl; exact (List.cons.inj htl).1.symm
  split at h
  · rename_i v q0 rest
    split at h
    · cases h
      have hz := hhd rfl
      refine key q0 rest (.ref v) (jm_sR σ (jm_up σ.2.2.1 q0 b v)) hq ?_ ?_ rfl rfl rfl (fun H H1 hw hp => jm_wdR hq.1 hq.2.1 hw ?_ hp) hP
      · rcases jt_yr ha6 hbN hz with ⟨n, hy⟩ | ⟨n, hy⟩ <;> rw [hy] <;> by_cases hv0 : v = 0 <;> first | (subst hv0; rfl) | (rw [jm_v_r hv0]; rfl)
      · rcases jt_yr ha6 hbN hz with ⟨n, hy⟩ | ⟨n, hy⟩ <;> rw [hy] <;> by_cases hv0 : v = 0 <;> first | (subst hv0; rfl) | (rw [jm_v_r hv0]; rfl)
      · rw [jm_e_obj (σ := jm_sR σ (jm_up σ.2.2.1 q0 b v)) hq.2.2 (by omega), jm_fv_R hbl hz]
    · cases h
  · rename_i x q0 rest
    split at h
    · cases h
      have hz := hhd rfl
      refine key q0 rest (.int x) (jm_sI σ (jm_up σ.2.2.2.1 q0 b x)) hq ?_ ?_ rfl rfl rfl (fun H H1 hw hp => jm_wdI hq.1 hq.2.1 hw ?_ hp) hP
      · rw [jt_yi ha6 hbN hz]; rfl
      · rw [jt_yi ha6 hbN hz]; rfl
      · rw [jm_e_obj (σ := jm_sI σ (jm_up σ.2.2.2.1 q0 b x)) hq.2.2 (by omega), ← jm_fv_I hbl (by omega)]; rfl
    · cases h
      have hz := hhd rfl
      obtain ⟨hok, hx⟩ := hq
      refine key q0 rest (.int x) (jm_sI σ (jm_up σ.2.2.2.1 q0 b x)) hok ?_ ?_ rfl rfl rfl (fun H H1 hw hp => jm_wdI hok.1 hok.2.1 hw ?_ hp) hP
      · rw [jt_yb ha6 hbN hz]; rcases hx with rfl | rfl <;> rfl
      · rw [jt_yb ha6 hbN hz]; rcases hx with rfl | rfl <;> rfl
      · rw [jm_e_obj (σ := jm_sI σ (jm_up σ.2.2.2.1 q0 b x)) hok.2.2 (by omega), ← jm_fv_I hbl (by omega)]; rfl
    · cases h
  · cases h
end
