/-! runs of the small machine: an entry of a boat (at cell q: 0 number, 1 metric, 2 next, 3 shownNumber, 4 shownMetric, 5 first, 6 mean, 7 waits, 8 isFresh) -/
abbrev jI (σ : jm_S) : jHp := σ.2.2.2.1
def eShow (q : Nat) (I : jHp) : jHp := jm_up (jm_up (jm_up (jm_up I q 3 (I q 0)) q 4 (I q 1)) q 7 0) q 8 1
theorem tE_show {d q : Nat} {σ : jm_S} (hq : jm_ok σ q 4) : jm_E (d, 81, 0, jm_en 81 [.ref q], [], false, σ) (.inl none, jm_sI σ (eShow q (jI σ)), true) := by
  repeat (first | refine jE_step rfl trivial ?_ | refine jE_step rfl rfl ?_ | refine jE_step rfl hq ?_ | refine jE_step rfl ⟨hq, Or.inl rfl⟩ ?_ | refine jE_step rfl ⟨hq, Or.inr rfl⟩ ?_)
  exact jE_ret rfl trivial
def eRenew (q : Nat) (I : jHp) : jHp := eShow q (jm_up I q 0 (I q 0 + 2))
theorem tE_renew {d q : Nat} {σ : jm_S} (hq : jm_ok σ q 4) : jm_E (d + 1, 75, 0, jm_en 75 [.ref q], [], false, σ) (.inl none, jm_sI σ (eRenew q (jI σ)), true) := by
  repeat (first | refine jE_step rfl trivial ?_ | refine jE_step rfl rfl ?_ | refine jE_step rfl hq ?_ | refine jE_step rfl ⟨hq, Or.inl rfl⟩ ?_ | refine jE_step rfl ⟨hq, Or.inr rfl⟩ ?_)
  refine jE_call rfl ⟨by decide, hq⟩ (tE_show hq) ?_
  exact jE_ret rfl trivial
def eLose (q : Nat) (I : jHp) : jHp := eShow q (jm_up (jm_up (jm_up I q 0 (I q 0 + 1)) q 1 (-1)) q 2 (-1))
theorem tE_lose {d q : Nat} {σ : jm_S} (hq : jm_ok σ q 4) : jm_E (d + 1, 79, 0, jm_en 79 [.ref q], [], false, σ) (.inl none, jm_sI σ (eLose q (jI σ)), true) := by
  repeat (first | refine jE_step rfl trivial ?_ | refine jE_step rfl rfl ?_ | refine jE_step rfl hq ?_ | refine jE_step rfl ⟨hq, Or.inl rfl⟩ ?_ | refine jE_step rfl ⟨hq, Or.inr rfl⟩ ?_)
  refine jE_call rfl ⟨by decide, hq⟩ (tE_show hq) ?_
  exact jE_ret rfl trivial
def eStart (q : Nat) (k : Int32) (I : jHp) : jHp := eShow q (jm_up (jm_up (jm_up I q 0 0) q 1 0) q 2 k)
theorem tE_start {d q : Nat} {k : Int32} {σ : jm_S} (hq : jm_ok σ q 4) : jm_E (d + 1, 74, 0, jm_en 74 [.ref q, .int k], [], false, σ) (.inl none, jm_sI σ (eStart q k (jI σ)), true) := by
  repeat (first | refine jE_step rfl trivial ?_ | refine jE_step rfl rfl ?_ | refine jE_step rfl hq ?_ | refine jE_step rfl ⟨hq, Or.inl rfl⟩ ?_ | refine jE_step rfl ⟨hq, Or.inr rfl⟩ ?_)
  refine jE_call rfl ⟨by decide, hq⟩ (tE_show hq) ?_
  exact jE_ret rfl trivial
def eBet (I : jHp) (q : Nat) (n m : Int32) : Int32 := if m ≤ 15 then (if I q 0 = -1 then (if m = -1 then 0 else 1) else if n = I q 0 then (if m = -1 then 0 else if I q 1 ≤ m then 0 else 1) else if n ≤ I q 0 then 0 else 1) else 0
theorem tE_bet {d q : Nat} {n m : Int32} {σ : jm_S} (hq : jm_ok σ q 4) : jm_E (d, 76, 0, jm_en 76 [.ref q, .int n, .int m], [], false, σ) (.inl (some (.int (eBet (jI σ) q n m))), σ, false) := by
  unfold eBet
  repeat' (first | refine jE_step rfl trivial ?_ | refine jE_step rfl rfl ?_ | refine jE_step rfl hq ?_ | refine jE_step rfl ⟨hq, Or.inl rfl⟩ ?_ | refine jE_step rfl ⟨hq, Or.inr rfl⟩ ?_ | exact jE_ret rfl trivial | exact jE_ret rfl (Or.inl rfl) | exact jE_ret rfl (Or.inr rfl) | (split <;> rename_i hb <;> first | simp only [if_pos hb] | simp only [if_neg hb] | skip))
def eAt (I : jHp) (q : Nat) : Int32 := if I q 1 = -1 then 1 else if I q 4 = -1 then 1 else if I q 1 ≤ I q 4 then 1 else if I q 6 = 0 then 1 else 0
theorem tE_at {d q : Nat} {σ : jm_S} (hq : jm_ok σ q 4) : jm_E (d, 78, 0, jm_en 78 [.ref q], [], false, σ) (.inl (some (.int (eAt (jI σ) q))), σ, false) := by
  unfold eAt
  repeat' (first | refine jE_step rfl trivial ?_ | refine jE_step rfl rfl ?_ | refine jE_step rfl hq ?_ | refine jE_step rfl ⟨hq, Or.inl rfl⟩ ?_ | refine jE_step rfl ⟨hq, Or.inr rfl⟩ ?_ | exact jE_ret rfl trivial | exact jE_ret rfl (Or.inl rfl) | exact jE_ret rfl (Or.inr rfl) | (split <;> rename_i hb <;> first | simp only [if_pos hb] | simp only [if_neg hb] | skip))
def eSettle (q : Nat) (now : Int32) (I : jHp) : jHp := if I q 7 = 0 then I else if 4 * (now - I q 5) < 2 * I q 6 then I else eShow q I
theorem tE_settle {d q : Nat} {now : Int32} {σ : jm_S} (hq : jm_ok σ q 4) : jm_F (d + 1, 80, 0, jm_en 80 [.ref q, .int now], [], false, σ) (.inl none) (jm_sI σ (eSettle q now (jI σ))) := by
  unfold eSettle
  repeat' (first | refine jF_step rfl trivial ?_ | refine jF_step rfl rfl ?_ | refine jF_step rfl hq ?_ | refine jF_step rfl ⟨hq, Or.inl rfl⟩ ?_ | refine jF_step rfl ⟨hq, Or.inr rfl⟩ ?_ | exact jF_ret rfl trivial | exact jF_ret rfl (Or.inl rfl) | exact jF_ret rfl (Or.inr rfl) | (split <;> rename_i hb <;> first | simp only [if_pos hb] | simp only [if_neg hb] | skip))
  exact jF_callE rfl ⟨by decide, hq⟩ (tE_show hq) (jF_ret rfl trivial)
def eT3 (q : Nat) (I : jHp) : jHp := if eAt I q = 0 then jm_up I q 7 1 else eShow q I
theorem tE_t3 {d q : Nat} {n m k now : Int32} {w : Bool} {σ : jm_S} (hq : jm_ok σ q 4) : jm_F (d + 1, 77, 68, [some (.ref q), some (.int n), some (.int m), some (.int k), some (.int now)], [], w, σ) (.inl none) (jm_sI σ (eT3 q (jI σ))) := by
  unfold eT3
  repeat (first | refine jF_step rfl trivial ?_ | refine jF_step rfl rfl ?_ | refine jF_step rfl hq ?_ | refine jF_step rfl ⟨hq, Or.inl rfl⟩ ?_ | refine jF_step rfl ⟨hq, Or.inr rfl⟩ ?_)
  refine jF_callE rfl ⟨by decide, hq⟩ (tE_at hq) ?_
  repeat' (first | refine jF_step rfl trivial ?_ | refine jF_step rfl rfl ?_ | refine jF_step rfl hq ?_ | refine jF_step rfl ⟨hq, Or.inl rfl⟩ ?_ | refine jF_step rfl ⟨hq, Or.inr rfl⟩ ?_ | exact jF_ret rfl trivial | exact jF_ret rfl (Or.inl rfl) | exact jF_ret rfl (Or.inr rfl) | (split <;> rename_i hb <;> first | simp only [if_pos hb] | simp only [if_neg hb] | skip))
  exact jF_callE rfl ⟨by decide, hq⟩ (tE_show hq) (jF_step rfl trivial (jF_ret rfl trivial))
def eT2 (q : Nat) (n m k : Int32) (I : jHp) : jHp := eT3 q (jm_up (jm_up (jm_up I q 0 n) q 1 m) q 2 (if m = -1 then -1 else k))
theorem tE_t2 {d q : Nat} {n m k now : Int32} {w : Bool} {σ : jm_S} (hq : jm_ok σ q 4) : jm_F (d + 1, 77, 44, [some (.ref q), some (.int n), some (.int m), some (.int k), some (.int now)], [], w, σ) (.inl none) (jm_sI σ (eT2 q n m k (jI σ))) := by
  unfold eT2
  repeat (first | refine jF_step rfl trivial ?_ | refine jF_step rfl rfl ?_ | refine jF_step rfl hq ?_ | refine jF_step rfl ⟨hq, Or.inl rfl⟩ ?_ | refine jF_step rfl ⟨hq, Or.inr rfl⟩ ?_)
  split
  · rename_i hb
    try simp only [if_pos hb]
    repeat (first | exact tE_t3 (by exact hq) | refine jF_step rfl trivial ?_ | refine jF_step rfl rfl ?_ | refine jF_step rfl hq ?_ | refine jF_step rfl ⟨hq, Or.inl rfl⟩ ?_ | refine jF_step rfl ⟨hq, Or.inr rfl⟩ ?_)
  · rename_i hb
    try simp only [if_neg hb]
    repeat (first | exact tE_t3 (by exact hq) | refine jF_step rfl trivial ?_ | refine jF_step rfl rfl ?_ | refine jF_step rfl hq ?_ | refine jF_step rfl ⟨hq, Or.inl rfl⟩ ?_ | refine jF_step rfl ⟨hq, Or.inr rfl⟩ ?_)
def eTake (q : Nat) (n m k now : Int32) (I : jHp) : jHp := eT2 q n m k (if n = I q 0 then jm_up I q 6 ((3 * I q 6 + 4 * (now - I q 5)) / 4) else if m = -1 then I else jm_up I q 5 now)
theorem tE_take {d q : Nat} {n m k now : Int32} {σ : jm_S} (hq : jm_ok σ q 4) : jm_F (d + 1, 77, 0, jm_en 77 [.ref q, .int n, .int m, .int k, .int now], [], false, σ) (.inl none) (jm_sI σ (eTake q n m k now (jI σ))) := by
  unfold eTake
  repeat (first | refine jF_step rfl trivial ?_ | refine jF_step rfl rfl ?_ | refine jF_step rfl hq ?_ | refine jF_step rfl ⟨hq, Or.inl rfl⟩ ?_ | refine jF_step rfl ⟨hq, Or.inr rfl⟩ ?_)
  split
  · rename_i hb
    try simp only [if_pos hb]
    repeat (first | exact tE_t2 (by exact hq) | refine jF_step rfl trivial ?_ | refine jF_step rfl rfl ?_ | refine jF_step rfl hq ?_ | refine jF_step rfl ⟨hq, Or.inl rfl⟩ ?_ | refine jF_step rfl ⟨hq, Or.inr rfl⟩ ?_ | refine jF_step rfl (by decide) ?_)
  · rename_i hb
    try simp only [if_neg hb]
    repeat (first | refine jF_step rfl trivial ?_ | refine jF_step rfl rfl ?_ | refine jF_step rfl hq ?_ | refine jF_step rfl ⟨hq, Or.inl rfl⟩ ?_ | refine jF_step rfl ⟨hq, Or.inr rfl⟩ ?_)
    split
    · rename_i hb2
      try simp only [if_pos hb2]
      exact tE_t2 (by exact hq)
    · rename_i hb2
      try simp only [if_neg hb2]
      repeat (first | exact tE_t2 (by exact hq) | refine jF_step rfl trivial ?_ | refine jF_step rfl rfl ?_ | refine jF_step rfl hq ?_ | refine jF_step rfl ⟨hq, Or.inl rfl⟩ ?_ | refine jF_step rfl ⟨hq, Or.inr rfl⟩ ?_)
