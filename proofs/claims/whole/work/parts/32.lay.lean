/-! where the cells lie once the constructors have run -/
def jRm (j : Nat) : Nat := ([0, 0, 183, 184, 185, 186, 187, 188, 189, 190, 191, 192, 193, 194, 0, 195, 196, 197, 198, 199, 0, 200, 201, 202, 203, 204, 205, 206, 207, 208] : List Nat).getD j 0
def jR (r j : Nat) : Nat :=
  if r < 6 then (if r = 2 then (if j < 3 then 3 + j else 0) else if r = 3 then (if j < 8 then 6 + 12 * j else 0) else if r = 4 then (if j < 16 then 102 + 4 * j else 0) else if r = 5 then (if j < 16 then 166 + j else 0) else 0)
  else if r < 102 then (if (r - 6) % 12 = 0 then (if 1 ≤ j ∧ j < 4 then r + j else 0) else if (r - 6) % 12 = 1 then (if j < 8 then r + 3 + j else 0) else 0)
  else if r < 166 then (if (r - 102) % 4 = 0 then (if j < 3 then r + 1 + j else 0) else 0)
  else if r = 182 then jRm j else 0
def jKm (r : Nat) : Nat × Nat := ([(5, 30), (11, 8), (11, 64), (10, 64), (10, 64), (10, 64), (10, 64), (10, 64), (10, 64), (11, 64), (11, 64), (10, 64), (10, 64), (10, 16), (10, 16), (10, 128), (10, 128), (10, 128), (10, 16), (10, 16), (10, 16), (10, 16), (10, 16), (10, 16), (10, 8), (10, 256), (10, 8), (12, 1)] : List (Nat × Nat)).getD r (0, 0)
def jK (L r : Nat) : Nat × Nat :=
  if r < 6 then ([(0, 0), (10, L), (0, 6), (13, 8), (14, 16), (15, 16)] : List (Nat × Nat)).getD r (0, 0)
  else if r < 102 then (if (r - 6) % 12 = 0 then (1, 7) else if (r - 6) % 12 = 1 then (16, 8) else if (r - 6) % 12 = 2 then (10, 8) else if (r - 6) % 12 = 3 then (10, 32) else (4, 9))
  else if r < 166 then (if (r - 102) % 4 = 0 then (2, 5) else (10, 8))
  else if r < 182 then (3, 7) else jKm (r - 182)
abbrev jHp : Type := Nat → Nat → Int32
def jS (L : Nat) (I : jHp) (G : Nat → Nat → Int64) (t : Nat) : jm_S := (208, jK L, jR, I, G, 3165, t)
section
variable {L t : Nat} {I : jHp} {G : Nat → Nat → Int64}
theorem lk_boat {i : Nat} (h : i < 8) : jK L (6 + 12 * i) = (1, 7) := by
  unfold jK; rw [if_neg (by omega), if_pos (by omega), if_pos (by omega)]
theorem lk_ents {i : Nat} (h : i < 8) : jK L (7 + 12 * i) = (16, 8) := by
  unfold jK; rw [if_neg (by omega), if_pos (by omega), if_neg (by omega), if_pos (by omega)]
theorem lk_heard {i : Nat} (h : i < 8) : jK L (8 + 12 * i) = (10, 8) := by
  unfold jK; rw [if_neg (by omega), if_pos (by omega), if_neg (by omega), if_neg (by omega), if_pos (by omega)]
theorem lk_words {i : Nat} (h : i < 8) : jK L (9 + 12 * i) = (10, 32) := by
  unfold jK; rw [if_neg (by omega), if_pos (by omega), if_neg (by omega), if_neg (by omega), if_neg (by omega), if_pos (by omega)]
theorem lk_ent {i g : Nat} (h : i < 8) (hg : g < 8) : jK L (10 + 12 * i + g) = (4, 9) := by
  unfold jK; rw [if_neg (by omega), if_pos (by omega), if_neg (by omega), if_neg (by omega), if_neg (by omega), if_neg (by omega)]
theorem lk_cast {i : Nat} (h : i < 16) : jK L (102 + 4 * i) = (2, 5) := by
  unfold jK; rw [if_neg (by omega), if_neg (by omega), if_pos (by omega), if_pos (by omega)]
theorem lk_carr {i k : Nat} (h : i < 16) (hk : 1 ≤ k ∧ k < 4) : jK L (102 + k + 4 * i) = (10, 8) := by
  unfold jK; rw [if_neg (by omega), if_neg (by omega), if_pos (by omega), if_neg (by omega)]
theorem lk_pack {i : Nat} (h : i < 16) : jK L (166 + i) = (3, 7) := by
  unfold jK; rw [if_neg (by omega), if_neg (by omega), if_neg (by omega), if_pos (by omega)]
theorem lr_boats {i : Nat} (h : i < 8) : jR 3 i = 6 + 12 * i := by
  unfold jR; rw [if_pos (by omega), if_neg (by omega), if_pos rfl, if_pos h]
theorem lr_casts {i : Nat} (h : i < 16) : jR 4 i = 102 + 4 * i := by
  unfold jR; rw [if_pos (by omega), if_neg (by omega), if_neg (by omega), if_pos rfl, if_pos h]
theorem lr_packs {i : Nat} (h : i < 16) : jR 5 i = 166 + i := by
  unfold jR; rw [if_pos (by omega), if_neg (by omega), if_neg (by omega), if_neg (by omega), if_pos rfl, if_pos h]
theorem lr_boat {i j : Nat} (h : i < 8) (hj : 1 ≤ j ∧ j < 4) : jR (6 + 12 * i) j = 6 + j + 12 * i := by
  unfold jR; rw [if_neg (by omega), if_pos (by omega), if_pos (by omega), if_pos hj]; omega
theorem lr_ents {i g : Nat} (h : i < 8) (hg : g < 8) : jR (7 + 12 * i) g = 10 + 12 * i + g := by
  unfold jR; rw [if_neg (by omega), if_pos (by omega), if_neg (by omega), if_pos (by omega), if_pos hg]; omega
theorem lr_cast {i j : Nat} (h : i < 16) (hj : j < 3) : jR (102 + 4 * i) j = 103 + j + 4 * i := by
  unfold jR; rw [if_neg (by omega), if_neg (by omega), if_pos (by omega), if_pos (by omega), if_pos hj]; omega
theorem lo {r k n : Nat} (h : jK L r = (k, n)) (h2 : 2 ≤ r) (h3 : r < 210) : jm_ok (jS L I G t) r k := ⟨h2, h3, by show (jK L r).1 = k; rw [h]⟩
theorem lw {r k n : Nat} {x : Int32} (h : jK L r = (k, n)) (h2 : 2 ≤ r) (h3 : r < 210) (hx : vp_in x n) : jm_iw (jS L I G t) r k x := ⟨lo h h2 h3, by show vp_in x (jK L r).2; rw [h]; exact hx⟩
theorem lx {r k n : Nat} {x : Int32} (h : jK L r = (k, n)) (h2 : 2 ≤ r) (h3 : r < 210) (hx : vp_in x n) : jm_ix (jS L I G t) r k x := ⟨Or.inr ⟨h2, h3⟩, by show (jK L r).1 = k; rw [h], by show vp_in x (jK L r).2; rw [h]; exact hx⟩
theorem la {r k n : Nat} {x : Int32} (h : jK L r = (k, n)) (h2 : 2 ≤ r) (h3 : r < 210) (hx : vp_in x n) (hk : 13 ≤ k ∧ k < 17) : jm_iw (jS L I G t) r ((jS L I G t).2.1 r).1 x ∧ 13 ≤ ((jS L I G t).2.1 r).1 ∧ ((jS L I G t).2.1 r).1 < 17 := by
  have e : ((jS L I G t).2.1 r).1 = k := by show (jK L r).1 = k; rw [h]
  rw [e]
  exact ⟨lw h h2 h3 hx, hk⟩
theorem lo_boat {i : Nat} (h : i < 8) : jm_ok (jS L I G t) (6 + 12 * i) 1 := lo (lk_boat h) (by omega) (by omega)
theorem lo_ent {i g : Nat} (h : i < 8) (hg : g < 8) : jm_ok (jS L I G t) (10 + 12 * i + g) 4 := lo (lk_ent h hg) (by omega) (by omega)
theorem lo_cast {i : Nat} (h : i < 16) : jm_ok (jS L I G t) (102 + 4 * i) 2 := lo (lk_cast h) (by omega) (by omega)
theorem lo_pack {i : Nat} (h : i < 16) : jm_ok (jS L I G t) (166 + i) 3 := lo (lk_pack h) (by omega) (by omega)
theorem lo_net : jm_ok (jS L I G t) 2 0 := lo (k := 0) (n := 6) rfl (by omega) (by omega)
theorem lo_mod : jm_ok (jS L I G t) 182 5 := lo (k := 5) (n := 30) rfl (by omega) (by omega)
theorem la_boats {i : Nat} (h : i < 8) : jm_iw (jS L I G t) 3 ((jS L I G t).2.1 3).1 (nI i) ∧ 13 ≤ ((jS L I G t).2.1 3).1 ∧ ((jS L I G t).2.1 3).1 < 17 := la (k := 13) (n := 8) rfl (by omega) (by omega) (vp_in_nI h (by decide)) (by omega)
theorem la_casts {i : Nat} (h : i < 16) : jm_iw (jS L I G t) 4 ((jS L I G t).2.1 4).1 (nI i) ∧ 13 ≤ ((jS L I G t).2.1 4).1 ∧ ((jS L I G t).2.1 4).1 < 17 := la (k := 14) (n := 16) rfl (by omega) (by omega) (vp_in_nI h (by decide)) (by omega)
theorem la_packs {i : Nat} (h : i < 16) : jm_iw (jS L I G t) 5 ((jS L I G t).2.1 5).1 (nI i) ∧ 13 ≤ ((jS L I G t).2.1 5).1 ∧ ((jS L I G t).2.1 5).1 < 17 := la (k := 15) (n := 16) rfl (by omega) (by omega) (vp_in_nI h (by decide)) (by omega)
theorem la_ents {i g : Nat} (h : i < 8) (hg : g < 8) : jm_iw (jS L I G t) (7 + 12 * i) ((jS L I G t).2.1 (7 + 12 * i)).1 (nI g) ∧ 13 ≤ ((jS L I G t).2.1 (7 + 12 * i)).1 ∧ ((jS L I G t).2.1 (7 + 12 * i)).1 < 17 := la (lk_ents h) (by omega) (by omega) (vp_in_nI hg (by decide)) (by omega)
end
theorem nc8 {i : Nat} (h : i < 1000) : (nI i).toNatClampNeg = i := nI_clamp (by omega)
