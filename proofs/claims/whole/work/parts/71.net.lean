/-! runs of the small machine: the net is made -/
def Rk (n a b c r j : Nat) : Nat := if r = 3 then (if j < a then jR 3 j else 0) else if r = 4 then (if j < b then jR 4 j else 0) else if r = 5 then (if j < c then jR 5 j else 0) else if r < n + 2 then jR r j else 0
def cI0 (xs : Nat → Int32) (r j : Nat) : Int32 := if r = 1 then xs j else if 6 ≤ r ∧ r < 102 then bI ((r - 6) / 12) r j else if 166 ≤ r ∧ r < 182 then (if j = 5 ∨ j = 6 then -1 else 0) else 0
def Ik (xs : Nat → Int32) (n r j : Nat) : Int32 := if r < n + 2 then cI0 xs r j else 0
theorem Rk_z {n a b c r j : Nat} (h : n + 2 ≤ r) (h6 : 6 ≤ r) : Rk n a b c r j = 0 := by
  unfold Rk; rw [if_neg (by omega), if_neg (by omega), if_neg (by omega), if_neg (by omega)]
theorem Ik_z {xs : Nat → Int32} {n r j : Nat} (h : n + 2 ≤ r) : Ik xs n r j = 0 := by
  unfold Ik; rw [if_neg (by omega)]
section
variable {L d : Nat} {xs : Nat → Int32}
theorem net_boats : ∀ r i s, i + r = 8 → ∀ w out σ, (∀ w, jm_F (d + 3, 0, 74, [some (.ref 2), some (.int (nI 8))], [], w, jC L 100 (Rk 100 8 0 0) (Ik xs 100) (s + 127 * r)) out σ) → jm_F (d + 3, 0, 48, [some (.ref 2), some (.int (nI i))], [], w, jC L (4 + 12 * i) (Rk (4 + 12 * i) i 0 0) (Ik xs (4 + 12 * i)) s) out σ := by
  intro r
  induction r with
  | zero =>
    intro i s h w out σ fin
    have e : i = 8 := by omega
    subst e
    iterate 3 (first | refine jF_step rfl trivial ?_ | refine jF_step rfl rfl ?_)
    rw [if_pos (show (8 : Int32) ≤ nI 8 from n_ge' (a := 8) (by omega) (by omega))]
    exact fin w
  | succ r ih =>
    intro i s h w out σ fin
    have hi : i < 8 := by omega
    iterate 3 (first | refine jF_step rfl trivial ?_ | refine jF_step rfl rfl ?_)
    rw [if_neg (show ¬ (8 : Int32) ≤ nI i from n_ge (b := 8) (by omega) (by omega))]
    iterate 1 (first | refine jF_step rfl trivial ?_ | refine jF_step rfl rfl ?_)
    refine jF_step rfl (okC (k := 0) (m := 6) rfl (by omega) (by omega)) ?_
    rw [cRC, show Rk (4 + 12 * i) i 0 0 2 0 = 3 by unfold Rk; rw [if_neg (by omega), if_neg (by omega), if_neg (by omega), if_pos (by omega)]; rfl]
    iterate 1 (first | refine jF_step rfl trivial ?_ | refine jF_step rfl rfl ?_)
    refine jF_step rfl rfl ?_
    have k6 : jK L (4 + 12 * i + 2) = (1, 7) := by rw [show 4 + 12 * i + 2 = 6 + 12 * i by omega]; exact lk_boat hi
    rw [nwC (fun j => Rk_z (by omega) (by omega)) (fun j => Ik_z (by omega)) k6, nC, show 4 + 12 * i + 2 = 6 + 12 * i by omega, show 4 + 12 * i + 1 = 5 + 12 * i by omega]
    iterate 2 (first | refine jF_step rfl trivial ?_ | refine jF_step rfl rfl ?_)
    obtain ⟨R', I', hF, fR, fI⟩ := tB_new (L := L) (d := d) (s := s + 7) (R := Rk (4 + 12 * i) i 0 0) (I := Ik xs (4 + 12 * i)) hi rfl (fun r j h => Rk_z (by omega) (by omega)) (fun r j h => Ik_z (by omega))
    have q2 : 2 ≤ 6 + 12 * i := by omega
    refine jF_call rfl ⟨Nat.le_of_ble_eq_true rfl, q2⟩ hF (fun w1 => ?_)
    have k3 : jK L 3 = (13, 8) := rfl
    refine jF_step rfl (aaC k3 (by omega) (by omega) (vp_in_nI hi (by decide)) (by omega) (lk_boat hi) (by omega) (by omega) rfl) ?_
    rw [sRC, cRC, nc8 (by omega)]
    iterate 2 (first | refine jF_step rfl trivial ?_ | refine jF_step rfl rfl ?_)
    have eR : jm_up R' 3 i (6 + 12 * i) = Rk (4 + 12 * (i + 1)) (i + 1) 0 0 := by
      funext r' j
      by_cases e : r' = 3
      · subst e
        unfold Rk
        rw [if_pos rfl]
        by_cases e2 : j = i
        · subst e2; rw [up_s, if_pos (by omega), lr_boats hi]
        · rw [up_i e2, fR, if_neg (by omega)]
          unfold Rk
          rw [if_pos rfl]
          by_cases e3 : j < i
          · rw [if_pos e3, if_pos (by omega)]
          · rw [if_neg e3, if_neg (by omega)]
      · rw [up_k e, fR]
        unfold Rk
        rw [if_neg e, if_neg e]
        by_cases e4 : r' = 4
        · rw [if_pos e4, if_pos e4, if_neg (by omega)]
        rw [if_neg e4, if_neg e4]
        by_cases e5 : r' = 5
        · rw [if_pos e5, if_pos e5, if_neg (by omega)]
        rw [if_neg e5, if_neg e5]
        by_cases e6 : 6 + 12 * i ≤ r' ∧ r' < 18 + 12 * i
        · rw [if_pos e6, if_pos (by omega)]
        · rw [if_neg e6]
          by_cases e7 : r' < 4 + 12 * i + 2
          · rw [if_pos e7, if_pos (by omega)]
          · rw [if_neg e7, if_neg (by omega)]
    have eI : I' = Ik xs (4 + 12 * (i + 1)) := by
      funext r' j
      rw [fI]
      unfold Ik
      by_cases e6 : 6 + 12 * i ≤ r' ∧ r' < 18 + 12 * i
      · rw [if_pos e6, if_pos (by omega)]
        unfold cI0
        rw [if_neg (by omega), if_pos (by omega), show (r' - 6) / 12 = i by omega]
      · rw [if_neg e6]
        by_cases e7 : r' < 4 + 12 * i + 2
        · rw [if_pos e7, if_pos (by omega)]
        · rw [if_neg e7, if_neg (by omega)]
    rw [eR, eI]
    refine jF_to ?_ (ih (i + 1) (s + 127) (by omega) true out σ (fun w' => ?_))
    · rw [← nI_1, show 16 + 12 * i = 4 + 12 * (i + 1) by omega]; rfl
    · have := fin w'
      rw [show s + 127 * (r + 1) = s + 127 + 127 * r by omega] at this
      exact this
theorem net_casts : ∀ r c s, c + r = 16 → ∀ w out σ, (∀ w, jm_F (d + 3, 0, 101, [some (.ref 2), some (.int (nI 16))], [], w, jC L 164 (Rk 164 8 16 0) (Ik xs 164) (s + 29 * r)) out σ) → jm_F (d + 3, 0, 76, [some (.ref 2), some (.int (nI c))], [], w, jC L (100 + 4 * c) (Rk (100 + 4 * c) 8 c 0) (Ik xs (100 + 4 * c)) s) out σ := by
  intro r
  induction r with
  | zero =>
    intro c s h w out σ fin
    have e : c = 16 := by omega
    subst e
    iterate 3 (first | refine jF_step rfl trivial ?_ | refine jF_step rfl rfl ?_)
    rw [if_pos (show (16 : Int32) ≤ nI 16 from n_ge' (a := 16) (by omega) (by omega))]
    exact fin w
  | succ r ih =>
    intro c s h w out σ fin
    have hc : c < 16 := by omega
    iterate 3 (first | refine jF_step rfl trivial ?_ | refine jF_step rfl rfl ?_)
    rw [if_neg (show ¬ (16 : Int32) ≤ nI c from n_ge (b := 16) (by omega) (by omega))]
    iterate 1 (first | refine jF_step rfl trivial ?_ | refine jF_step rfl rfl ?_)
    refine jF_step rfl (okC (k := 0) (m := 6) rfl (by omega) (by omega)) ?_
    rw [cRC, show Rk (100 + 4 * c) 8 c 0 2 1 = 4 by unfold Rk; rw [if_neg (by omega), if_neg (by omega), if_neg (by omega), if_pos (by omega)]; rfl]
    iterate 1 (first | refine jF_step rfl trivial ?_ | refine jF_step rfl rfl ?_)
    refine jF_step rfl rfl ?_
    have k6 : jK L (100 + 4 * c + 2) = (2, 5) := by rw [show 100 + 4 * c + 2 = 102 + 4 * c by omega]; exact lk_cast hc
    rw [nwC (fun j => Rk_z (by omega) (by omega)) (fun j => Ik_z (by omega)) k6, nC, show 100 + 4 * c + 2 = 102 + 4 * c by omega, show 100 + 4 * c + 1 = 101 + 4 * c by omega]
    iterate 1 (first | refine jF_step rfl trivial ?_ | refine jF_step rfl rfl ?_)
    have q2 : 2 ≤ 102 + 4 * c := by omega
    refine jF_call rfl ⟨Nat.le_of_ble_eq_true rfl, q2⟩ (tC_new (d := d + 1) hc rfl (fun r j h => Rk_z (by omega) (by omega)) (fun r j h => Ik_z (by omega)) (fun j => Ik_z (by omega))) (fun w1 => ?_)
    have k4 : jK L 4 = (14, 16) := rfl
    refine jF_step rfl (aaC k4 (by omega) (by omega) (vp_in_nI hc (by decide)) (by omega) (lk_cast hc) (by omega) (by omega) rfl) ?_
    rw [sRC, cRC, nc8 (by omega)]
    iterate 2 (first | refine jF_step rfl trivial ?_ | refine jF_step rfl rfl ?_)
    have eR : jm_up (cRef c (Rk (100 + 4 * c) 8 c 0)) 4 c (102 + 4 * c) = Rk (100 + 4 * (c + 1)) 8 (c + 1) 0 := by
      funext r' j
      by_cases e : r' = 4
      · subst e
        unfold cRef Rk
        rw [if_neg (show ¬ 4 = 3 by omega), if_pos rfl]
        by_cases e2 : j = c
        · subst e2; rw [up_s, if_pos (by omega), lr_casts hc]
        · rw [up_i e2, up_k (by omega), up_k (by omega), up_k (by omega), if_neg (show ¬ 4 = 3 by omega), if_pos rfl]
          by_cases e3 : j < c
          · rw [if_pos e3, if_pos (by omega)]
          · rw [if_neg e3, if_neg (by omega)]
      · rw [up_k e]
        unfold cRef
        by_cases e6 : r' = 102 + 4 * c
        · subst e6
          have v : Rk (100 + 4 * (c + 1)) 8 (c + 1) 0 (102 + 4 * c) j = if j < 3 then 102 + 4 * c + 1 + j else 0 := by
            unfold Rk jR
            rw [if_neg (by omega), if_neg (by omega), if_neg (by omega), if_pos (by omega), if_neg (by omega), if_neg (by omega), if_pos (by omega), if_pos (by omega)]
          rw [v]
          by_cases j2 : j = 2
          · subst j2; rw [up_s, if_pos (by omega)]; omega
          by_cases j1 : j = 1
          · subst j1; rw [up_i (by omega), up_s, if_pos (by omega)]; omega
          by_cases j0 : j = 0
          · subst j0; rw [up_i (by omega), up_i (by omega), up_s, if_pos (by omega)]; omega
          rw [up_i j2, up_i j1, up_i j0, if_neg (by omega), Rk_z (by omega) (by omega)]
        · rw [up_k e6, up_k e6, up_k e6]
          unfold Rk
          by_cases e3 : r' = 3
          · rw [if_pos e3, if_pos e3]
          rw [if_neg e3, if_neg e3, if_neg e, if_neg e]
          by_cases e5 : r' = 5
          · rw [if_pos e5, if_pos e5]
          rw [if_neg e5, if_neg e5]
          by_cases e7 : r' < 100 + 4 * c + 2
          · rw [if_pos e7, if_pos (by omega)]
          · rw [if_neg e7]
            by_cases e8 : r' < 100 + 4 * (c + 1) + 2
            · rw [if_pos e8]
              unfold jR
              rw [if_neg (by omega), if_neg (by omega), if_pos (by omega), if_neg (by omega)]
            · rw [if_neg e8]
    have eI : Ik xs (100 + 4 * c) = Ik xs (100 + 4 * (c + 1)) := by
      funext r' j
      unfold Ik
      by_cases e7 : r' < 100 + 4 * c + 2
      · rw [if_pos e7, if_pos (by omega)]
      · rw [if_neg e7]
        by_cases e8 : r' < 100 + 4 * (c + 1) + 2
        · rw [if_pos e8]
          unfold cI0
          rw [if_neg (by omega), if_neg (by omega), if_neg (by omega)]
        · rw [if_neg e8]
    rw [eR, eI]
    refine jF_to ?_ (ih (c + 1) (s + 29) (by omega) true out σ (fun w' => ?_))
    · rw [← nI_1, show 104 + 4 * c = 100 + 4 * (c + 1) by omega]; rfl
    · have := fin w'
      rw [show s + 29 * (r + 1) = s + 29 + 29 * r by omega] at this
      exact this
theorem net_packs : ∀ r p s, p + r = 16 → ∀ w out σ, (∀ w, jm_F (d + 3, 0, 128, [some (.ref 2), some (.int (nI 16))], [], w, jC L 180 (Rk 180 8 16 16) (Ik xs 180) (s + 7 * r)) out σ) → jm_F (d + 3, 0, 103, [some (.ref 2), some (.int (nI p))], [], w, jC L (164 + p) (Rk (164 + p) 8 16 p) (Ik xs (164 + p)) s) out σ := by
  intro r
  induction r with
  | zero =>
    intro p s h w out σ fin
    have e : p = 16 := by omega
    subst e
    iterate 3 (first | refine jF_step rfl trivial ?_ | refine jF_step rfl rfl ?_)
    rw [if_pos (show (16 : Int32) ≤ nI 16 from n_ge' (a := 16) (by omega) (by omega))]
    exact fin w
  | succ r ih =>
    intro p s h w out σ fin
    have hp : p < 16 := by omega
    iterate 3 (first | refine jF_step rfl trivial ?_ | refine jF_step rfl rfl ?_)
    rw [if_neg (show ¬ (16 : Int32) ≤ nI p from n_ge (b := 16) (by omega) (by omega))]
    iterate 1 (first | refine jF_step rfl trivial ?_ | refine jF_step rfl rfl ?_)
    refine jF_step rfl (okC (k := 0) (m := 6) rfl (by omega) (by omega)) ?_
    rw [cRC, show Rk (164 + p) 8 16 p 2 2 = 5 by unfold Rk; rw [if_neg (by omega), if_neg (by omega), if_neg (by omega), if_pos (by omega)]; rfl]
    iterate 1 (first | refine jF_step rfl trivial ?_ | refine jF_step rfl rfl ?_)
    refine jF_step rfl rfl ?_
    have k6 : jK L (164 + p + 2) = (3, 7) := by rw [show 164 + p + 2 = 166 + p by omega]; exact lk_pack hp
    rw [nwC (fun j => Rk_z (by omega) (by omega)) (fun j => Ik_z (by omega)) k6, nC, show 164 + p + 2 = 166 + p by omega, show 164 + p + 1 = 165 + p by omega]
    iterate 1 (first | refine jF_step rfl trivial ?_ | refine jF_step rfl rfl ?_)
    have q2 : 2 ≤ 166 + p := by omega
    refine jF_call rfl ⟨Nat.le_of_ble_eq_true rfl, q2⟩ (tP_new (d := d + 1) (okC (lk_pack hp) (by omega) (by omega))) (fun w1 => ?_)
    have k5 : jK L 5 = (15, 16) := rfl
    refine jF_step rfl (aaC k5 (by omega) (by omega) (vp_in_nI hp (by decide)) (by omega) (lk_pack hp) (by omega) (by omega) rfl) ?_
    rw [sRC, cRC, nc8 (by omega)]
    iterate 2 (first | refine jF_step rfl trivial ?_ | refine jF_step rfl rfl ?_)
    have eR : jm_up (Rk (164 + p) 8 16 p) 5 p (166 + p) = Rk (164 + (p + 1)) 8 16 (p + 1) := by
      funext r' j
      unfold Rk
      by_cases e : r' = 5
      · subst e
        rw [if_neg (show ¬ 5 = 3 by omega), if_neg (show ¬ 5 = 4 by omega), if_pos rfl]
        by_cases e2 : j = p
        · subst e2; rw [up_s, if_pos (by omega), lr_packs hp]
        · rw [up_i e2, if_neg (show ¬ 5 = 3 by omega), if_neg (show ¬ 5 = 4 by omega), if_pos rfl]
          by_cases e3 : j < p
          · rw [if_pos e3, if_pos (by omega)]
          · rw [if_neg e3, if_neg (by omega)]
      · rw [up_k e]
        by_cases e3 : r' = 3
        · rw [if_pos e3, if_pos e3]
        rw [if_neg e3, if_neg e3]
        by_cases e4 : r' = 4
        · rw [if_pos e4, if_pos e4]
        rw [if_neg e4, if_neg e4, if_neg e, if_neg e]
        by_cases e7 : r' < 164 + p + 2
        · rw [if_pos e7, if_pos (by omega)]
        · rw [if_neg e7]
          by_cases e8 : r' < 164 + (p + 1) + 2
          · rw [if_pos e8]
            unfold jR
            rw [if_neg (by omega), if_neg (by omega), if_neg (by omega), if_neg (by omega)]
          · rw [if_neg e8]
    have eI : pNew (166 + p) (Ik xs (164 + p)) = Ik xs (164 + (p + 1)) := by
      funext r' j
      rw [pNew_v (fun j => Ik_z (by omega))]
      unfold Ik
      by_cases e : r' = 166 + p
      · rw [if_pos e, if_pos (show r' < 164 + (p + 1) + 2 by omega)]
        unfold cI0
        rw [if_neg (show ¬ r' = 1 by omega), if_neg (show ¬ (6 ≤ r' ∧ r' < 102) by omega), if_pos (show 166 ≤ r' ∧ r' < 182 by omega)]
      · rw [if_neg e]
        by_cases e7 : r' < 164 + p + 2
        · rw [if_pos e7, if_pos (by omega)]
        · rw [if_neg e7, if_neg (by omega)]
    rw [eR, eI]
    refine jF_to ?_ (ih (p + 1) (s + 7) (by omega) true out σ (fun w' => ?_))
    · rw [← nI_1, show 165 + p = 164 + (p + 1) by omega]; rfl
    · have := fin w'
      rw [show s + 7 * (r + 1) = s + 7 + 7 * r by omega] at this
      exact this
def Ib (xs : Nat → Int32) (r j : Nat) : Int32 := if r = 1 then xs j else 0
theorem tN_new {s : Nat} : jm_F (d + 3, 0, 0, jm_en 0 [.ref 2], [], false, jC L 1 (fun _ _ => 0) (Ib xs) s) (.inl none) (jC L 180 (Rk 180 8 16 16) (Ik xs 180) (s + 1632)) := by
  have ok : ∀ n R I s, 1 ≤ n → jm_ok (jC L n R I s) 2 0 := fun n R I s h => okC (k := 0) (m := 6) rfl (by omega) (by omega)
  have h1 : 1 ≤ 2 := by omega
  have k1 : jK L (1 + 2) = (13, 8) := rfl
  have k2 : jK L (1 + 1 + 2) = (14, 16) := rfl
  have k3 : jK L (1 + 1 + 1 + 2) = (15, 16) := rfl
  have b0 : ∀ j, Ib xs 2 j = 0 := fun j => by unfold Ib; rw [if_neg (by omega)]
  iterate 4 (first | refine jF_step rfl trivial ?_ | refine jF_step rfl rfl ?_ | refine jF_step rfl ⟨by omega, Nat.le_of_ble_eq_true rfl, h1⟩ ?_ | refine jF_step rfl ⟨⟨by omega, Nat.le_of_ble_eq_true rfl, h1⟩, Or.inl rfl⟩ ?_ | refine jF_step rfl ⟨⟨by omega, Nat.le_of_ble_eq_true rfl, h1⟩, Or.inr rfl⟩ ?_)
  refine jF_step rfl ⟨rfl, by decide, by decide⟩ ?_
  rw [show Int32.toNatClampNeg 8 = 8 from rfl, nwC (fun j => rfl) (fun j => by unfold Ib; rw [if_neg (by omega)]) k1]
  refine jF_step rfl (ok _ _ _ _ (by omega)) ?_
  rw [sRC, cRC, nC]
  iterate 2 (first | refine jF_step rfl trivial ?_ | refine jF_step rfl rfl ?_)
  refine jF_step rfl ⟨rfl, by decide, by decide⟩ ?_
  rw [show Int32.toNatClampNeg 16 = 16 from rfl, nwC (fun j => by rw [up_k (by omega)]) (fun j => by unfold Ib; rw [if_neg (by omega)]) k2]
  refine jF_step rfl (ok _ _ _ _ (by omega)) ?_
  rw [sRC, cRC, nC]
  iterate 2 (first | refine jF_step rfl trivial ?_ | refine jF_step rfl rfl ?_)
  refine jF_step rfl ⟨rfl, by decide, by decide⟩ ?_
  rw [show Int32.toNatClampNeg 16 = 16 from rfl, nwC (fun j => by rw [up_k (by omega), up_k (by omega)]) (fun j => by unfold Ib; rw [if_neg (by omega)]) k3]
  refine jF_step rfl (ok _ _ _ _ (by omega)) ?_
  rw [sRC, cRC, nC]
  iterate 2 (first | refine jF_step rfl trivial ?_ | refine jF_step rfl rfl ?_)
  refine jF_step rfl (ok _ _ _ _ (by omega)) ?_
  rw [sIC, cIC, up_v (b0 3)]
  iterate 2 (first | refine jF_step rfl trivial ?_ | refine jF_step rfl rfl ?_)
  refine jF_step rfl (ok _ _ _ _ (by omega)) ?_
  rw [sIC, cIC, up_v (b0 4)]
  iterate 2 (first | refine jF_step rfl trivial ?_ | refine jF_step rfl rfl ?_)
  refine jF_step rfl (ok _ _ _ _ (by omega)) ?_
  rw [sIC, cIC, up_v (b0 5)]
  iterate 2 (first | refine jF_step rfl trivial ?_ | refine jF_step rfl rfl ?_)
  have eR : jm_up (jm_up (jm_up (fun _ _ => 0) 2 0 (1 + 2)) 2 1 (1 + 1 + 2)) 2 2 (1 + 1 + 1 + 2) = Rk (4 + 12 * 0) 0 0 0 := by
    funext r j
    unfold Rk
    by_cases e : r = 2
    · subst e
      rw [if_neg (by omega), if_neg (by omega), if_neg (by omega), if_pos (by omega)]
      by_cases j2 : j = 2
      · subst j2; rw [up_s]; rfl
      by_cases j1 : j = 1
      · subst j1; rw [up_i (by omega), up_s]; rfl
      by_cases j0 : j = 0
      · subst j0; rw [up_i (by omega), up_i (by omega), up_s]; rfl
      rw [up_i j2, up_i j1, up_i j0]
      unfold jR
      rw [if_pos (by omega), if_pos rfl, if_neg (by omega)]
    · rw [up_k e, up_k e, up_k e]
      by_cases e3 : r = 3
      · rw [if_pos e3, if_neg (by omega)]
      rw [if_neg e3]
      by_cases e4 : r = 4
      · rw [if_pos e4, if_neg (by omega)]
      rw [if_neg e4]
      by_cases e5 : r = 5
      · rw [if_pos e5, if_neg (by omega)]
      rw [if_neg e5]
      by_cases e6 : r < 4 + 12 * 0 + 2
      · rw [if_pos e6]
        unfold jR
        rw [if_pos (by omega), if_neg e, if_neg e3, if_neg e4, if_neg e5]
      · rw [if_neg e6]
  have eI : Ib xs = Ik xs (4 + 12 * 0) := by
    funext r j
    unfold Ib Ik cI0
    by_cases e : r = 1
    · rw [if_pos e, if_pos (by omega), if_pos e]
    · by_cases e6 : r < 4 + 12 * 0 + 2
      · rw [if_pos e6, if_neg e, if_neg e, if_neg (show ¬ (6 ≤ r ∧ r < 102) by omega), if_neg (show ¬ (166 ≤ r ∧ r < 182) by omega)]
      · rw [if_neg e6, if_neg e]
  rw [eR, eI]
  refine net_boats 8 0 _ rfl _ _ _ (fun w1 => ?_)
  iterate 2 (first | refine jF_step rfl trivial ?_ | refine jF_step rfl rfl ?_)
  refine net_casts 16 0 _ rfl _ _ _ (fun w2 => ?_)
  iterate 2 (first | refine jF_step rfl trivial ?_ | refine jF_step rfl rfl ?_)
  refine net_packs 16 0 _ rfl _ _ _ (fun w3 => ?_)
  exact jF_ret rfl trivial
end
