/-! runs of the small machine: the packets -/
theorem lrp {p : Nat} (hp : p < 16) : jR (jR 2 2) (nI p).toNatClampNeg = 166 + p := by
  rw [nc8 (by omega)]; exact lr_packs hp
theorem n16 {k : Nat} (h : k < 16) : ¬ (16 : Int32) ≤ nI k := fun z => absurd (ni16 h) (Int32.not_lt.mpr z)
theorem n16e : (16 : Int32) ≤ nI 16 := by decide
theorem n8 {k : Nat} (h : k < 8) : ¬ (8 : Int32) ≤ nI k := fun z => absurd (ni8 h) (Int32.not_lt.mpr z)
theorem n8e : (8 : Int32) ≤ nI 8 := by decide
/-- how many packets are at b, of the first k -/
def nCnt (I : jHp) (b : Int32) : Nat → Int32
  | 0 => 0
  | k + 1 => if I (166 + k) 0 = 0 then nCnt I b k else if I (166 + k) 2 = b then nCnt I b k + 1 else nCnt I b k
def nFree (I : jHp) : Nat → Nat → Nat
  | 0, _ => 0
  | n + 1, k => if I (166 + k) 0 = 0 then 166 + k else nFree I n (k + 1)
def nNum (I : jHp) (x : Int32) : Nat → Nat → Nat
  | 0, _ => 0
  | n + 1, k => if I (166 + k) 0 = 0 then nNum I x n (k + 1) else if I (166 + k) 1 = x then 166 + k else nNum I x n (k + 1)
section
variable {L t d : Nat} {I : jHp} {G : Nat → Nat → Int64}
theorem tN_cnt0 {b : Int32} : ∀ n k, k + n = 16 → jm_E (d, 27, 4, [some (.ref 2), some (.int b), some (.int (nCnt I b k)), some (.int (nI k))], [], false, jS L I G t) (.inl (some (.int (nCnt I b 16))), jS L I G t, false) := by
  intro n
  induction n with
  | zero =>
    intro k hk
    have : k = 16 := by omega
    subst this
    repeat (first | refine jE_step rfl trivial ?_ | refine jE_step rfl rfl ?_)
    exact jE_ret rfl trivial
  | succ n ih =>
    intro k hk
    have hk16 : k < 16 := by omega
    have h := ih (k + 1) (by omega)
    repeat (first | refine jE_step rfl trivial ?_ | refine jE_step rfl rfl ?_)
    rw [if_neg (n16 hk16)]
    repeat (first | refine jE_step rfl trivial ?_ | refine jE_step rfl rfl ?_ | refine jE_step rfl lo_net ?_ | refine jE_step rfl ⟨lo_net, Or.inl rfl⟩ ?_ | refine jE_step rfl ⟨lo_net, Or.inr rfl⟩ ?_ | refine jE_step rfl (la_packs hk16) ?_)
    simp only [jS, lrp hk16]
    repeat (first | refine jE_step rfl trivial ?_ | refine jE_step rfl rfl ?_ | refine jE_step rfl (lo_pack hk16) ?_)
    generalize nCnt I b 16 = r at h ⊢
    rw [nCnt, ← nI_1] at h
    split
    · rename_i hb
      rw [if_pos hb] at h
      generalize nCnt I b k = y at h ⊢
      repeat (first | exact h | refine jE_step rfl trivial ?_ | refine jE_step rfl rfl ?_)
    · rename_i hb
      rw [if_neg hb] at h
      repeat (first | refine jE_step rfl trivial ?_ | refine jE_step rfl rfl ?_ | refine jE_step rfl lo_net ?_ | refine jE_step rfl ⟨lo_net, Or.inl rfl⟩ ?_ | refine jE_step rfl ⟨lo_net, Or.inr rfl⟩ ?_ | refine jE_step rfl (la_packs hk16) ?_)
      simp only [lrp hk16]
      repeat (first | refine jE_step rfl trivial ?_ | refine jE_step rfl rfl ?_ | refine jE_step rfl (lo_pack hk16) ?_)
      split
      · rename_i hb2
        rw [if_pos hb2] at h
        generalize nCnt I b k = y at h ⊢
        repeat (first | exact h | refine jE_step rfl trivial ?_ | refine jE_step rfl rfl ?_)
      · rename_i hb2
        rw [if_neg hb2] at h
        generalize nCnt I b k = y at h ⊢
        repeat (first | exact h | refine jE_step rfl trivial ?_ | refine jE_step rfl rfl ?_)
theorem tN_cnt {b : Int32} : jm_E (d, 27, 0, jm_en 27 [.ref 2, .int b], [], false, jS L I G t) (.inl (some (.int (nCnt I b 16))), jS L I G t, false) := by
  have h := tN_cnt0 (L := L) (t := t) (d := d) (I := I) (G := G) (b := b) 16 0 rfl
  repeat (first | exact h | refine jE_step rfl trivial ?_ | refine jE_step rfl rfl ?_)
theorem tN_free0 : ∀ n k, k + n = 16 → jm_E (d, 26, 2, [some (.ref 2), some (.int (nI k))], [], false, jS L I G t) (.inl (some (.ref (nFree I n k))), jS L I G t, false) := by
  intro n
  induction n with
  | zero =>
    intro k hk
    have : k = 16 := by omega
    subst this
    repeat (first | refine jE_step rfl trivial ?_ | refine jE_step rfl rfl ?_)
    exact jE_ret rfl trivial
  | succ n ih =>
    intro k hk
    have hk16 : k < 16 := by omega
    have h := ih (k + 1) (by omega)
    rw [← nI_1] at h
    repeat (first | refine jE_step rfl trivial ?_ | refine jE_step rfl rfl ?_)
    rw [if_neg (n16 hk16)]
    repeat (first | refine jE_step rfl trivial ?_ | refine jE_step rfl rfl ?_ | refine jE_step rfl lo_net ?_ | refine jE_step rfl ⟨lo_net, Or.inl rfl⟩ ?_ | refine jE_step rfl ⟨lo_net, Or.inr rfl⟩ ?_ | refine jE_step rfl (la_packs hk16) ?_)
    simp only [jS, lrp hk16]
    repeat (first | refine jE_step rfl trivial ?_ | refine jE_step rfl rfl ?_ | refine jE_step rfl (lo_pack hk16) ?_)
    simp only [nFree]
    split
    · repeat (first | refine jE_step rfl trivial ?_ | refine jE_step rfl rfl ?_ | refine jE_step rfl lo_net ?_ | refine jE_step rfl ⟨lo_net, Or.inl rfl⟩ ?_ | refine jE_step rfl ⟨lo_net, Or.inr rfl⟩ ?_ | refine jE_step rfl (la_packs hk16) ?_)
      simp only [lrp hk16]
      exact jE_ret rfl trivial
    · repeat (first | exact h | refine jE_step rfl trivial ?_ | refine jE_step rfl rfl ?_)
theorem tN_free : jm_E (d, 26, 0, jm_en 26 [.ref 2], [], false, jS L I G t) (.inl (some (.ref (nFree I 16 0))), jS L I G t, false) := by
  have h := tN_free0 (L := L) (t := t) (d := d) (I := I) (G := G) 16 0 rfl
  repeat (first | exact h | refine jE_step rfl trivial ?_ | refine jE_step rfl rfl ?_)
theorem tN_num0 {x : Int32} : ∀ n k, k + n = 16 → jm_E (d, 25, 2, [some (.ref 2), some (.int x), some (.int (nI k))], [], false, jS L I G t) (.inl (some (.ref (nNum I x n k))), jS L I G t, false) := by
  intro n
  induction n with
  | zero =>
    intro k hk
    have : k = 16 := by omega
    subst this
    repeat (first | refine jE_step rfl trivial ?_ | refine jE_step rfl rfl ?_)
    exact jE_ret rfl trivial
  | succ n ih =>
    intro k hk
    have hk16 : k < 16 := by omega
    have h := ih (k + 1) (by omega)
    rw [← nI_1] at h
    repeat (first | refine jE_step rfl trivial ?_ | refine jE_step rfl rfl ?_)
    rw [if_neg (n16 hk16)]
    repeat (first | refine jE_step rfl trivial ?_ | refine jE_step rfl rfl ?_ | refine jE_step rfl lo_net ?_ | refine jE_step rfl ⟨lo_net, Or.inl rfl⟩ ?_ | refine jE_step rfl ⟨lo_net, Or.inr rfl⟩ ?_ | refine jE_step rfl (la_packs hk16) ?_)
    simp only [jS, lrp hk16]
    repeat (first | refine jE_step rfl trivial ?_ | refine jE_step rfl rfl ?_ | refine jE_step rfl (lo_pack hk16) ?_)
    simp only [nNum]
    split
    · repeat (first | exact h | refine jE_step rfl trivial ?_ | refine jE_step rfl rfl ?_)
    · repeat (first | refine jE_step rfl trivial ?_ | refine jE_step rfl rfl ?_ | refine jE_step rfl lo_net ?_ | refine jE_step rfl ⟨lo_net, Or.inl rfl⟩ ?_ | refine jE_step rfl ⟨lo_net, Or.inr rfl⟩ ?_ | refine jE_step rfl (la_packs hk16) ?_)
      simp only [lrp hk16]
      repeat (first | refine jE_step rfl trivial ?_ | refine jE_step rfl rfl ?_ | refine jE_step rfl (lo_pack hk16) ?_)
      split
      · repeat (first | refine jE_step rfl trivial ?_ | refine jE_step rfl rfl ?_ | refine jE_step rfl lo_net ?_ | refine jE_step rfl ⟨lo_net, Or.inl rfl⟩ ?_ | refine jE_step rfl ⟨lo_net, Or.inr rfl⟩ ?_ | refine jE_step rfl (la_packs hk16) ?_)
        simp only [lrp hk16]
        exact jE_ret rfl trivial
      · repeat (first | exact h | refine jE_step rfl trivial ?_ | refine jE_step rfl rfl ?_)
theorem tN_num {x : Int32} : jm_E (d, 25, 0, jm_en 25 [.ref 2, .int x], [], false, jS L I G t) (.inl (some (.ref (nNum I x 16 0))), jS L I G t, false) := by
  have h := tN_num0 (L := L) (t := t) (d := d) (I := I) (G := G) (x := x) 16 0 rfl
  repeat (first | exact h | refine jE_step rfl trivial ?_ | refine jE_step rfl rfl ?_)
theorem cN_waiting {i : Nat} (hi : i < 8) : jm_F (d + 1, 13, 0, jm_en 13 [.ref 2, .int (nI i)], [], false, jS L I G t) (.inl (some (.int (nCnt I (nI i) 16)))) (jS L I G t) := by
  repeat (first | refine jF_step rfl trivial ?_ | refine jF_step rfl rfl ?_)
  refine jF_callE rfl ⟨Nat.le_of_ble_eq_true rfl, Nat.le_of_ble_eq_true rfl⟩ (tN_boat hi) ?_
  repeat (first | refine jF_step rfl trivial ?_ | refine jF_step rfl rfl ?_)
  refine jF_callE rfl ⟨Nat.le_of_ble_eq_true rfl, lo_net⟩ tN_cnt ?_
  exact jF_ret rfl trivial
theorem cN_waitingX {x : Int32} (hx : x < 0 ∨ ¬ x < 8) (hd : 6 ≤ d) : jm_F (d + 1, 13, 0, jm_en 13 [.ref 2, .int x], [], false, jS L I G t) (.inr 0) (jS L I G (t + 1)) := by
  repeat (first | refine jF_step rfl trivial ?_ | refine jF_step rfl rfl ?_)
  exact jF_thr rfl ⟨Nat.le_of_ble_eq_true rfl, Nat.le_of_ble_eq_true rfl⟩ (tN_boatX hx hd).F rfl rfl rfl
end
