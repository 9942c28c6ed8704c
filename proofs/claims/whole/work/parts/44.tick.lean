/-! runs of the small machine: a tick -/
/-- boat i loses every way over o -/
def bLoseW (i : Nat) (o : Int32) : Nat → Nat → jHp → jHp
  | 0, _, I => I
  | r + 1, g, I => bLoseW i o r (g + 1) (if I (10 + 12 * i + g) 2 = o then eLose (10 + 12 * i + g) I else I)
def bSettle (i : Nat) (now : Int32) : Nat → Nat → jHp → jHp
  | 0, _, I => I
  | r + 1, g, I => bSettle i now r (g + 1) (eSettle (10 + 12 * i + g) now I)
def bForget (i : Nat) (now : Int32) : Nat → Nat → jHp → jHp
  | 0, _, I => I
  | r + 1, o, I => bForget i now r (o + 1) (if I (8 + 12 * i) o = -1 ∨ now - I (8 + 12 * i) o < 6 then I else bLoseW i (nI o) 8 0 (jm_up I (8 + 12 * i) o (-1)))
def nTick (now : Int32) : Nat → Nat → jHp → jHp
  | 0, _, I => I
  | r + 1, i, I => nTick now r (i + 1) (if I (6 + 12 * i) 6 = 0 then I else bSettle i now 8 0 (bForget i now 8 0 I))
theorem bLoseW_r {i : Nat} {o : Int32} {q j : Nat} (h : ∀ g, g < 8 → q ≠ 10 + 12 * i + g) : ∀ r g I, g + r ≤ 8 → bLoseW i o r g I q j = I q j := by
  intro r
  induction r with
  | zero => intro g I _; rfl
  | succ r ih =>
    intro g I hg
    rw [bLoseW, ih _ _ (by omega)]
    split
    · exact eLose_r (h g (by omega))
    · rfl
theorem bSettle_r {i : Nat} {o : Int32} {q j : Nat} (h : ∀ g, g < 8 → q ≠ 10 + 12 * i + g) : ∀ r g I, g + r ≤ 8 → bSettle i o r g I q j = I q j := by
  intro r
  induction r with
  | zero => intro g I _; rfl
  | succ r ih =>
    intro g I hg
    rw [bSettle, ih _ _ (by omega), eSettle_r (h g (by omega))]
theorem bForget_r {i : Nat} {now : Int32} {q j : Nat} (h : ∀ g, g < 8 → q ≠ 10 + 12 * i + g) (h8 : q ≠ 8 + 12 * i) : ∀ r o I, o + r ≤ 8 → bForget i now r o I q j = I q j := by
  intro r
  induction r with
  | zero => intro g I _; rfl
  | succ r ih =>
    intro o I ho
    rw [bForget, ih _ _ (by omega)]
    split
    · rfl
    · rw [bLoseW_r h _ _ _ (by omega), up_k h8]
theorem nTick_r {now : Int32} {q j : Nat} (h : ∀ i g, i < 8 → g < 8 → q ≠ 10 + 12 * i + g) (h8 : ∀ i, i < 8 → q ≠ 8 + 12 * i) : ∀ r i I, i + r ≤ 8 → nTick now r i I q j = I q j := by
  intro r
  induction r with
  | zero => intro g I _; rfl
  | succ r ih =>
    intro i I hi
    rw [nTick, ih _ _ (by omega)]
    split
    · rfl
    · rw [bSettle_r (fun g hg => h i g (by omega) hg) _ _ _ (by omega), bForget_r (fun g hg => h i g (by omega) hg) (h8 i (by omega)) _ _ _ (by omega)]
section
variable {L t d : Nat} {G : Nat → Nat → Int64}
theorem tB_lose0 {i : Nat} {o : Int32} (hi : i < 8) : ∀ r g (I : jHp) (w : Bool), g + r = 8 → jm_F (d + 2, 67, 2, [some (.ref (6 + 12 * i)), some (.int o), some (.int (nI g))], [], w, jS L I G t) (.inl none) (jS L (bLoseW i o r g I) G t) := by
  intro r
  induction r with
  | zero =>
    intro g I w hg
    have : g = 8 := by omega
    subst this
    repeat (first | refine jF_step rfl trivial ?_ | refine jF_step rfl rfl ?_)
    exact jF_ret rfl trivial
  | succ r ih =>
    intro g I w hg
    have hg8 : g < 8 := by omega
    have k1 := fun I w => ih (g + 1) I w (by omega)
    simp only [← nI_1 (a := g)] at k1
    rw [bLoseW]
    repeat (first | refine jF_step rfl trivial ?_ | refine jF_step rfl rfl ?_)
    rw [if_neg (n8 hg8)]
    repeat (first | refine jF_step rfl trivial ?_ | refine jF_step rfl rfl ?_ | refine jF_step rfl (lo_boat hi) ?_ | refine jF_step rfl (la_ents' hi hg8) ?_)
    simp only [jS, lre hi hg8]
    repeat (first | refine jF_step rfl trivial ?_ | refine jF_step rfl rfl ?_ | refine jF_step rfl (lo_ent hi hg8) ?_)
    by_cases h : I (10 + 12 * i + g) 2 = o
    · rw [if_pos h, if_pos h]
      repeat (first | refine jF_step rfl trivial ?_ | refine jF_step rfl rfl ?_ | refine jF_step rfl (lo_boat hi) ?_ | refine jF_step rfl (la_ents' hi hg8) ?_)
      simp only [jS, lre hi hg8]
      refine jF_callE rfl ⟨Nat.le_of_ble_eq_true rfl, lo_ent hi hg8⟩ (tE_lose (lo_ent hi hg8)) ?_
      repeat (first | exact k1 _ _ | refine jF_step rfl trivial ?_ | refine jF_step rfl rfl ?_)
    · rw [if_neg h, if_neg h]
      repeat (first | exact k1 _ _ | refine jF_step rfl trivial ?_ | refine jF_step rfl rfl ?_)
theorem tB_lose {i : Nat} {o : Int32} {I : jHp} (hi : i < 8) : jm_F (d + 2, 67, 0, jm_en 67 [.ref (6 + 12 * i), .int o], [], false, jS L I G t) (.inl none) (jS L (bLoseW i o 8 0 I) G t) := by
  have k1 := fun w => tB_lose0 (L := L) (t := t) (d := d) (G := G) (o := o) hi 8 0 I w rfl
  repeat (first | exact k1 _ | refine jF_step rfl trivial ?_ | refine jF_step rfl rfl ?_)
theorem tB_settle0 {i : Nat} {now : Int32} (hi : i < 8) : ∀ r g (I : jHp) (w : Bool), g + r = 8 → jm_F (d + 2, 68, 2, [some (.ref (6 + 12 * i)), some (.int now), some (.int (nI g))], [], w, jS L I G t) (.inl none) (jS L (bSettle i now r g I) G t) := by
  intro r
  induction r with
  | zero =>
    intro g I w hg
    have : g = 8 := by omega
    subst this
    repeat (first | refine jF_step rfl trivial ?_ | refine jF_step rfl rfl ?_)
    exact jF_ret rfl trivial
  | succ r ih =>
    intro g I w hg
    have hg8 : g < 8 := by omega
    have k1 := fun I w => ih (g + 1) I w (by omega)
    simp only [← nI_1 (a := g)] at k1
    rw [bSettle]
    repeat (first | refine jF_step rfl trivial ?_ | refine jF_step rfl rfl ?_)
    rw [if_neg (n8 hg8)]
    repeat (first | refine jF_step rfl trivial ?_ | refine jF_step rfl rfl ?_ | refine jF_step rfl (lo_boat hi) ?_ | refine jF_step rfl (la_ents' hi hg8) ?_)
    simp only [jS, lre hi hg8]
    repeat (first | refine jF_step rfl trivial ?_ | refine jF_step rfl rfl ?_)
    refine jF_call rfl ⟨Nat.le_of_ble_eq_true rfl, lo_ent hi hg8⟩ (tE_settle (lo_ent hi hg8)) (fun w => ?_)
    repeat (first | exact k1 _ _ | refine jF_step rfl trivial ?_ | refine jF_step rfl rfl ?_)
theorem tB_settle {i : Nat} {now : Int32} {I : jHp} (hi : i < 8) : jm_F (d + 2, 68, 0, jm_en 68 [.ref (6 + 12 * i), .int now], [], false, jS L I G t) (.inl none) (jS L (bSettle i now 8 0 I) G t) := by
  have k1 := fun w => tB_settle0 (L := L) (t := t) (d := d) (G := G) (now := now) hi 8 0 I w rfl
  repeat (first | exact k1 _ | refine jF_step rfl trivial ?_ | refine jF_step rfl rfl ?_)
theorem tB_forget0 {i : Nat} {now : Int32} (hi : i < 8) : ∀ r o (I : jHp) (w : Bool), o + r = 8 → jm_F (d + 3, 66, 2, [some (.ref (6 + 12 * i)), some (.int now), some (.int (nI o))], [], w, jS L I G t) (.inl none) (jS L (bForget i now r o I) G t) := by
  intro r
  induction r with
  | zero =>
    intro g I w hg
    have : g = 8 := by omega
    subst this
    repeat (first | refine jF_step rfl trivial ?_ | refine jF_step rfl rfl ?_)
    exact jF_ret rfl trivial
  | succ r ih =>
    intro o I w ho
    have ho8 : o < 8 := by omega
    have k1 := fun I w => ih (o + 1) I w (by omega)
    simp only [← nI_1 (a := o)] at k1
    rw [bForget]
    repeat (first | refine jF_step rfl trivial ?_ | refine jF_step rfl rfl ?_)
    rw [if_neg (n8 ho8)]
    repeat (first | refine jF_step rfl trivial ?_ | refine jF_step rfl rfl ?_)
    refine jF_callE rfl ⟨Nat.le_of_ble_eq_true rfl, lo_boat hi⟩ (tB_heard hi ho8) ?_
    repeat (first | refine jF_step rfl trivial ?_ | refine jF_step rfl rfl ?_)
    by_cases h1 : I (8 + 12 * i) o = -1
    · simp only [if_pos h1]
      rw [if_pos (Or.inl h1)]
      repeat (first | exact k1 _ _ | refine jF_step rfl trivial ?_ | refine jF_step rfl rfl ?_)
    · simp only [if_neg h1]
      repeat (first | refine jF_step rfl trivial ?_ | refine jF_step rfl rfl ?_ | refine jF_step rfl (lo_boat hi) ?_ | refine jF_step rfl (lx_heard hi ho8) ?_)
      simp only [jS, lrh hi, nc8 (show o < 1000 by omega)]
      by_cases h2 : now - I (8 + 12 * i) o < 6
      · rw [if_pos h2, if_pos (Or.inr h2)]
        repeat (first | exact k1 _ _ | refine jF_step rfl trivial ?_ | refine jF_step rfl rfl ?_)
      · rw [if_neg h2, if_neg (fun z => z.elim h1 h2)]
        have hw : jm_iw (jS L I G t) (jR (6 + 12 * i) 2) 10 (nI o) := by
          rw [lrh hi]; exact lw (lk_heard hi) (by omega) (by omega) (vp_in_nI ho8 (by decide))
        repeat (first | refine jF_step rfl trivial ?_ | refine jF_step rfl rfl ?_ | refine jF_step rfl (lo_boat hi) ?_ | refine jF_step rfl hw ?_ | refine jF_step rfl ⟨hw, Or.inl rfl⟩ ?_ | refine jF_step rfl ⟨hw, Or.inr rfl⟩ ?_)
        simp only [jm_sI, lrh hi, nc8 (show o < 1000 by omega)]
        refine jF_call rfl ⟨Nat.le_of_ble_eq_true rfl, lo_boat hi⟩ (tB_lose hi) (fun w => ?_)
        repeat (first | exact k1 _ _ | refine jF_step rfl trivial ?_ | refine jF_step rfl rfl ?_)
theorem tB_forget {i : Nat} {now : Int32} {I : jHp} (hi : i < 8) : jm_F (d + 3, 66, 0, jm_en 66 [.ref (6 + 12 * i), .int now], [], false, jS L I G t) (.inl none) (jS L (bForget i now 8 0 I) G t) := by
  have k1 := fun w => tB_forget0 (L := L) (t := t) (d := d) (G := G) (now := now) hi 8 0 I w rfl
  repeat (first | exact k1 _ | refine jF_step rfl trivial ?_ | refine jF_step rfl rfl ?_)
theorem cN_tick0 {now : Int32} : ∀ r i (I : jHp) (w : Bool), i + r = 8 → I 2 5 = now → jm_F (d + 4, 8, 12, [some (.ref 2), some (.int (nI i))], [], w, jS L I G t) (.inl (some (.int now))) (jS L (nTick now r i I) G t) := by
  intro r
  induction r with
  | zero =>
    intro g I w hg hn
    have : g = 8 := by omega
    subst this
    repeat (first | refine jF_step rfl trivial ?_ | refine jF_step rfl rfl ?_ | refine jF_step rfl lo_net ?_ | refine jF_step rfl ⟨lo_net, Or.inl rfl⟩ ?_ | refine jF_step rfl ⟨lo_net, Or.inr rfl⟩ ?_)
    rw [show (jS L I G t).2.2.2.1 2 5 = now from hn]
    exact jF_ret rfl trivial
  | succ r ih =>
    intro i I w hi hn
    have hi8 : i < 8 := by omega
    have k1 := fun I w h => ih (i + 1) I w (by omega) h
    simp only [← nI_1 (a := i)] at k1
    rw [nTick]
    repeat (first | refine jF_step rfl trivial ?_ | refine jF_step rfl rfl ?_)
    rw [if_neg (n8 hi8)]
    repeat (first | refine jF_step rfl trivial ?_ | refine jF_step rfl rfl ?_ | refine jF_step rfl lo_net ?_ | refine jF_step rfl ⟨lo_net, Or.inl rfl⟩ ?_ | refine jF_step rfl ⟨lo_net, Or.inr rfl⟩ ?_ | refine jF_step rfl (la_boats hi8) ?_)
    simp only [jS, lrb hi8]
    repeat (first | refine jF_step rfl trivial ?_ | refine jF_step rfl rfl ?_ | refine jF_step rfl (lo_boat hi8) ?_)
    by_cases h : I (6 + 12 * i) 6 = 0
    · rw [if_pos h, if_pos h]
      repeat (first | exact k1 _ _ hn | refine jF_step rfl trivial ?_ | refine jF_step rfl rfl ?_)
    · rw [if_neg h, if_neg h]
      have e1 : bForget i now 8 0 I 2 5 = now := by rw [bForget_r (by omega) (by omega) _ _ _ (by omega), hn]
      have e2 : bSettle i now 8 0 (bForget i now 8 0 I) 2 5 = now := by rw [bSettle_r (by omega) _ _ _ (by omega), e1]
      repeat (first | refine jF_step rfl trivial ?_ | refine jF_step rfl rfl ?_ | refine jF_step rfl lo_net ?_ | refine jF_step rfl ⟨lo_net, Or.inl rfl⟩ ?_ | refine jF_step rfl ⟨lo_net, Or.inr rfl⟩ ?_ | refine jF_step rfl (la_boats hi8) ?_)
      simp only [jS, lrb hi8]
      repeat (first | refine jF_step rfl trivial ?_ | refine jF_step rfl rfl ?_ | refine jF_step rfl lo_net ?_ | refine jF_step rfl ⟨lo_net, Or.inl rfl⟩ ?_ | refine jF_step rfl ⟨lo_net, Or.inr rfl⟩ ?_)
      simp only [hn]
      refine jF_call rfl ⟨Nat.le_of_ble_eq_true rfl, lo_boat hi8⟩ (tB_forget hi8) (fun w => ?_)
      generalize bForget i now 8 0 I = I1 at e1 e2 ⊢
      repeat (first | refine jF_step rfl trivial ?_ | refine jF_step rfl rfl ?_ | refine jF_step rfl lo_net ?_ | refine jF_step rfl ⟨lo_net, Or.inl rfl⟩ ?_ | refine jF_step rfl ⟨lo_net, Or.inr rfl⟩ ?_ | refine jF_step rfl (la_boats hi8) ?_)
      simp only [jS, jm_aft, lrb hi8]
      repeat (first | refine jF_step rfl trivial ?_ | refine jF_step rfl rfl ?_ | refine jF_step rfl lo_net ?_ | refine jF_step rfl ⟨lo_net, Or.inl rfl⟩ ?_ | refine jF_step rfl ⟨lo_net, Or.inr rfl⟩ ?_)
      simp only [e1]
      refine jF_call rfl ⟨Nat.le_of_ble_eq_true rfl, lo_boat hi8⟩ (tB_settle hi8) (fun w => ?_)
      generalize bSettle i now 8 0 I1 = I2 at e2 ⊢
      repeat (first | exact k1 _ _ e2 | refine jF_step rfl trivial ?_ | refine jF_step rfl rfl ?_)
theorem cN_tick {I : jHp} : jm_F (d + 4, 8, 0, jm_en 8 [.ref 2], [], false, jS L I G t) (.inl (some (.int (I 2 5 + 1)))) (jS L (nTick (I 2 5 + 1) 8 0 (jm_up I 2 5 (I 2 5 + 1))) G t) := by
  have k1 := fun w => cN_tick0 (L := L) (t := t) (d := d) (G := G) (now := I 2 5 + 1) 8 0 (jm_up I 2 5 (I 2 5 + 1)) w rfl up_s
  repeat (first | exact k1 _ | refine jF_step rfl trivial ?_ | refine jF_step rfl rfl ?_ | refine jF_step rfl lo_net ?_ | refine jF_step rfl ⟨lo_net, Or.inl rfl⟩ ?_ | refine jF_step rfl ⟨lo_net, Or.inr rfl⟩ ?_)
end
