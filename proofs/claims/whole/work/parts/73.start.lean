/-! the law from its start -/
def jI0 (xs : Nat → Int32) (I : jHp) : Prop := ∀ r j, I r j = if (185 ≤ r ∧ r ≤ 191) ∧ j < 64 then mI r j else if r = 200 ∧ j < 16 then -1 else Ik xs 180 r j
section
variable {L : Nat} {xs : Nat → Int32} {I : jHp}
theorem i0_lo (h : jI0 xs I) {r j : Nat} (hr : r < 182) : I r j = cI0 xs r j := by
  rw [h, if_neg (by omega), if_neg (by omega)]
  unfold Ik
  rw [if_pos (by omega)]
theorem i0_hi (h : jI0 xs I) {r j : Nat} (hr : 182 ≤ r) (h1 : r < 185 ∨ 191 < r) (h2 : r ≠ 200) : I r j = 0 := by
  rw [h, if_neg (by omega), if_neg (by omega)]
  exact Ik_z (by omega)
theorem i0_m (h : jI0 xs I) {r j : Nat} (hr : 185 ≤ r ∧ r ≤ 191) (hj : j < 64) : I r j = mI r j := by
  rw [h, if_pos ⟨hr, hj⟩]
theorem i0_b (h : jI0 xs I) {i r j : Nat} (hi : i < 8) (h1 : 6 + 12 * i ≤ r) (h2 : r < 18 + 12 * i) : I r j = bI i r j := by
  rw [i0_lo h (by omega)]
  unfold cI0
  rw [if_neg (by omega), if_pos (by omega), show (r - 6) / 12 = i by omega]
theorem i0_e (h : jI0 xs I) {i g s : Nat} (hi : i < 8) (hg : g < 8) : I (10 + 12 * i + g) s = if g = i then (if s = 2 then nI i else if s = 8 then 1 else 0) else (if s < 5 then -1 else 0) := by
  rw [i0_b h hi (by omega) (by omega)]
  unfold bI
  rw [if_neg (by omega), if_neg (by omega), if_pos (by omega)]
  by_cases e : g = i
  · rw [if_pos e, if_pos (by omega)]
  · rw [if_neg e, if_neg (by omega)]
theorem i0_cast (h : jI0 xs I) {r j : Nat} (h1 : 102 ≤ r) (h2 : r < 166) : I r j = 0 := by
  rw [i0_lo h (by omega)]
  unfold cI0
  rw [if_neg (by omega), if_neg (by omega), if_neg (by omega)]
theorem i0_net (h : jI0 xs I) {j : Nat} : I 2 j = 0 := by
  rw [i0_lo h (by omega)]
  unfold cI0
  rw [if_neg (by omega), if_neg (by omega), if_neg (by omega)]
theorem i0_pk (h : jI0 xs I) {p : Nat} (hp : p < 16) : I (166 + p) 0 = 0 := by
  rw [i0_lo h (by omega)]
  unfold cI0
  rw [if_neg (by omega), if_neg (by omega), if_pos (by omega), if_neg (by omega)]
theorem i0_boat (h : jI0 xs I) {i j : Nat} (hi : i < 8) : I (6 + 12 * i) j = if j = 0 then nI i else 0 := by
  rw [i0_b h hi (by omega) (by omega)]
  unfold bI
  rw [if_pos rfl]
theorem i0_heard (h : jI0 xs I) {i j : Nat} (hi : i < 8) (hj : j < 8) : I (8 + 12 * i) j = -1 := by
  rw [i0_b h hi (by omega) (by omega)]
  unfold bI
  rw [if_neg (by omega), if_pos rfl, if_pos hj]
theorem i0_words (h : jI0 xs I) {i j : Nat} (hi : i < 8) : I (9 + 12 * i) j = 0 := by
  rw [i0_b h hi (by omega) (by omega)]
  unfold bI
  rw [if_neg (by omega), if_neg (by omega), if_neg (by omega)]
theorem i0_link (h : jI0 xs I) {i j : Nat} (hi : i < 8) (hj : j < 8) : bLinked I (6 + 12 * i) (nI j) = 0 := by
  rw [bL_bt hj, show I (6 + 12 * i) 5 = 0 by rw [i0_boat h hi]; rfl, bt_z]
  rfl
theorem cN_0 {A : jHp} {b : Int32} (h : ∀ p, p < 16 → A (166 + p) 0 = 0) : ∀ k, k ≤ 16 → cN A b k = 0 := by
  intro k
  induction k with
  | zero => intro _; rfl
  | succ k ih => intro hk; rw [cN, ih (by omega), if_pos (h k (by omega))]
theorem Rel_0 (h : jI0 xs I) : Rel 0 I := by
  refine ⟨⟨?_, ?_, ?_, ?_, ?_, ?_, ?_, ?_⟩, ?_, ?_, ?_, ?_, ?_, ?_, ?_, ?_⟩
  · intro i g s hi hg hs
    rw [i0_e h hi hg]
    have e1 : (8 * i + g) / 8 = i := by omega
    have e2 : (8 * i + g) % 8 = g := by omega
    have hj : 8 * i + g < 64 := by omega
    have z : ∀ r, 192 ≤ r → r ≤ 194 → I r (8 * i + g) = 0 := fun r a b => i0_hi h (by omega) (by omega) (by omega)
    have m0 : ∀ r, r = 186 ∨ r = 187 ∨ r = 189 ∨ r = 190 → I r (8 * i + g) = if g = i then 0 else -1 := by
      intro r hr
      rw [i0_m h (by omega) hj]
      unfold mI
      rw [if_neg (by omega), if_neg (by omega), if_neg (by omega), e1, e2]
      by_cases e : g = i
      · rw [if_pos e, if_pos e.symm]
      · rw [if_neg e, if_neg (fun q => e q.symm)]
    match s, hs with
    | 0, _ => exact m0 186 (by omega)
    | 1, _ => exact m0 187 (by omega)
    | 2, _ =>
      show I 188 (8 * i + g) = _
      rw [i0_m h (by omega) hj]
      unfold mI
      rw [if_neg (by omega), if_pos rfl, e1, e2]
      by_cases e : g = i
      · rw [if_pos e, if_pos e.symm]; rfl
      · rw [if_neg e, if_neg (fun q => e q.symm)]; rfl
    | 3, _ => exact m0 189 (by omega)
    | 4, _ => exact m0 190 (by omega)
    | 5, _ => exact (z 193 (by omega) (by omega)).trans (by split <;> rfl)
    | 6, _ => exact (z 194 (by omega) (by omega)).trans (by split <;> rfl)
    | 7, _ => exact (z 192 (by omega) (by omega)).trans (by split <;> rfl)
    | 8, _ =>
      show I 191 (8 * i + g) = _
      rw [i0_m h (by omega) hj]
      unfold mI
      rw [if_neg (by omega), if_neg (by omega), if_pos rfl, e1, e2]
      by_cases e : g = i
      · rw [if_pos e, if_pos e.symm]; rfl
      · rw [if_neg e, if_neg (fun q => e q.symm)]; rfl
  · intro i hi
    rw [i0_hi h (by omega) (by omega) (by omega), i0_boat h hi]; rfl
  · intro i j hi hj
    rw [i0_hi h (by omega) (by omega) (by omega), i0_link h hi hj]
  · intro i j hi hj
    rw [i0_m h (by omega) (by omega), i0_heard h hi hj]; rfl
  · intro c hc
    refine ⟨?_, ?_, fun s k hs hk => ?_⟩
    · rw [i0_hi h (by omega) (by omega) (by omega), i0_cast h (by omega) (by omega)]
    · rw [i0_hi h (by omega) (by omega) (by omega), i0_cast h (by omega) (by omega)]
    · rw [i0_hi h (by omega) (by omega) (by omega), i0_cast h (by omega) (by omega)]
  · intro p hp
    refine ⟨?_, fun e => absurd (i0_pk h hp) e⟩
    rw [h, if_neg (by omega), if_pos ⟨rfl, hp⟩, if_pos (i0_pk h hp)]
  · intro i hi
    refine ⟨?_, fun k hk => ?_⟩
    · rw [i0_hi h (by omega) (by omega) (by omega), i0_boat h hi]; rfl
    · rw [i0_hi h (by omega) (by omega) (by omega), i0_words h hi]
  · refine ⟨?_, ?_, ?_⟩ <;> rw [i0_hi h (by omega) (by omega) (by omega), i0_net h]
  · intro i g hi hg
    have e : ∀ s, I (10 + 12 * i + g) s = if g = i then (if s = 2 then nI i else if s = 8 then 1 else 0) else (if s < 5 then -1 else 0) := fun s => i0_e h hi hg
    unfold Vent
    by_cases c : g = i
    · have a : ∀ s, s ≠ 2 → s ≠ 8 → I (10 + 12 * i + g) s = 0 := fun s h2 h8 => by rw [e, if_pos c, if_neg h2, if_neg h8]
      have a2 : I (10 + 12 * i + g) 2 = nI i := by rw [e, if_pos c, if_pos rfl]
      rw [a 0 (by omega) (by omega), a 1 (by omega) (by omega), a2, a 3 (by omega) (by omega), a 4 (by omega) (by omega), a 7 (by omega) (by omega)]
      exact ⟨⟨by decide, by decide⟩, ⟨by decide, by decide⟩, Or.inr ⟨i, hi, rfl⟩, ⟨by decide, by decide⟩, ⟨by decide, by decide⟩, fun q => absurd q (by decide), fun _ => by decide, fun q => absurd q (by decide)⟩
    · have a : ∀ s, s < 5 → I (10 + 12 * i + g) s = -1 := fun s h => by rw [e, if_neg c, if_pos h]
      have b : ∀ s, 5 ≤ s → I (10 + 12 * i + g) s = 0 := fun s h => by rw [e, if_neg c, if_neg (by omega)]
      rw [a 0 (by omega), a 1 (by omega), a 2 (by omega), a 3 (by omega), a 4 (by omega), b 7 (by omega), b 8 (by omega)]
      exact ⟨⟨by decide, by decide⟩, ⟨by decide, by decide⟩, Or.inl rfl, ⟨by decide, by decide⟩, ⟨by decide, by decide⟩, fun _ => rfl, fun q => absurd rfl q, fun _ => ⟨rfl, rfl⟩⟩
  · intro i hi
    exact ⟨by rw [i0_boat h hi]; rfl, Or.inl (by rw [i0_boat h hi]; rfl), 0, by omega, by rw [i0_boat h hi]; rfl⟩
  · intro i hi
    exact ⟨by rw [i0_e h hi hi, if_pos rfl]; rfl, i0_heard h hi hi⟩
  · intro i j hi hj
    rw [i0_link h hi hj, i0_link h hj hi]
  · intro i j hi hj
    rw [i0_heard h hi hj, tm1]; omega
  · intro c hc
    exact ⟨⟨0, by omega, i0_cast h (by omega) (by omega)⟩, 0, by omega, i0_cast h (by omega) (by omega), fun k hk => by omega⟩
  · refine ⟨fun p hp e => absurd (i0_pk h hp) e, fun p q hp _ e => absurd (i0_pk h hp) e, fun i hi => ?_⟩
    rw [cN_0 (fun p hp => i0_pk h hp) 16 (by omega)]; omega
  · exact ⟨⟨0, by omega, i0_net h⟩, ⟨0, by omega, i0_net h⟩, 0, by omega, i0_net h⟩
theorem jC_end : jC L 208 jR I 3165 = jS L I (fun _ _ => 0) 0 := by
  have e : (fun r => if r < 208 + 2 then jK L r else (0, 0)) = jK L := by
    funext r
    by_cases h : r < 208 + 2
    · exact if_pos h
    · rw [if_neg h]
      unfold jK
      rw [if_neg (by omega), if_neg (by omega), if_neg (by omega), if_neg (by omega)]
      unfold jKm
      rw [List.getD_eq_getElem?_getD, List.getElem?_eq_none (by simp only [List.length_cons, List.length_nil]; omega)]
      rfl
  show ((208, (fun r => if r < 208 + 2 then jK L r else (0, 0)), jR, I, fun _ _ => 0, 3165, 0) : jm_S) = _
  rw [e]
  rfl
/-- the small machine's heap at the law's entry -/
def jw_s (L : Nat) (xs : Nat → Int32) : jm_S := (0, fun r => if r = 1 then (10, L) else (0, 0), fun _ _ => 0, fun r j => if r = 1 then xs j else 0, fun _ _ => 0, 0, 0)
theorem jw_0 : jw_s L xs = jC L 0 (fun _ _ => 0) (Ib xs) 0 := by
  have e : (fun r => if r = 1 then (10, L) else (0, 0)) = fun r => if r < 0 + 2 then jK L r else (0, 0) := by
    funext r
    by_cases h : r = 1
    · rw [if_pos h, if_pos (by omega), h]; rfl
    · rw [if_neg h]
      by_cases h0 : r = 0
      · subst h0; rfl
      · rw [if_neg (by omega)]
  show ((0, (fun r => if r = 1 then (10, L) else (0, 0)), fun _ _ => 0, Ib xs, fun _ _ => 0, 0, 0) : jm_S) = _
  rw [e]
  rfl
set_option maxRecDepth 100000 in
theorem law_start (hL : L ≤ 2560) : jw_Q (12, 101, 0, jm_en 101 [.ref 1], [], false, jw_s L xs) := by
  rw [jw_0]
  refine jQ_step rfl rfl ?_
  rw [nwC (n := 0) (k := 0) (b := 6) (fun j => rfl) (fun j => rfl) rfl, nC]
  iterate 1 (first | refine jQ_step rfl trivial ?_ | refine jQ_step rfl rfl ?_)
  refine jQ_call rfl ⟨Nat.le_of_ble_eq_true rfl, Nat.le_of_ble_eq_true rfl⟩ (tN_new (d := 8)) (fun w1 => ?_)
  iterate 1 (first | refine jQ_step rfl trivial ?_ | refine jQ_step rfl rfl ?_)
  refine jQ_step rfl rfl ?_
  rw [nwC (n := 180) (k := 5) (b := 30) (fun j => Rk_z (by omega) (by omega)) (fun j => Ik_z (by omega)) rfl, nC]
  iterate 1 (first | refine jQ_step rfl trivial ?_ | refine jQ_step rfl rfl ?_)
  obtain ⟨I', hF, fI⟩ := tM_new (L := L) (d := 10) (s := 0 + 6 + 1632 + 30) (xs := xs)
  refine jQ_call rfl ⟨Nat.le_of_ble_eq_true rfl, Nat.le_of_ble_eq_true rfl⟩ hF (fun w2 => ?_)
  iterate 2 (first | refine jQ_step rfl trivial ?_ | refine jQ_step rfl rfl ?_)
  refine jQ_step rfl ⟨rfl, by decide, by decide⟩ ?_
  have hI : jI0 xs I' := fI
  rw [show Int32.toNatClampNeg 1 = 1 from rfl, nwC (n := 207) (k := 12) (b := 1) (fun j => by unfold jR; rw [if_neg (by omega), if_neg (by omega), if_neg (by omega), if_neg (by omega)]) (fun j => i0_hi hI (by omega) (by omega) (by omega)) rfl, nC]
  iterate 3 (first | refine jQ_step rfl trivial ?_ | refine jQ_step rfl rfl ?_)
  have e : jC L (207 + 1) jR I' (0 + 6 + 1632 + 30 + 1496 + 1) = jS L I' (fun _ _ => 0) 0 := jC_end
  rw [e]
  exact law_loop hL 512 0 I' _ 0 _ _ _ (by omega) (by omega) (by omega) (Rel_0 hI)
theorem jw_law (hL : L ≤ 2560) : ∃ (σ1 : jm_S) (w1 : Bool), jm_E (12, 101, 0, jm_en 101 [.ref 1], [], false, jw_s L xs) (.inl (some (.int 1)), σ1, w1) ∧ jm_nc σ1 ≤ 601024 ∧ jm_ns σ1 ≤ 7293034 := by
  obtain ⟨σ, ⟨w, h⟩, h1, h2⟩ := law_start (xs := xs) hL
  exact ⟨σ, w, h, h1, h2⟩
end
