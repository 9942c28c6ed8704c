/-! the reference's arrays: where they lie, and that an index is within -/
section
variable {L t : Nat} {I : jHp} {G : Nat → Nat → Int64}
theorem rm2 : jR 182 2 = 183 := rfl
theorem mw2 {k : Nat} (h : k < 8) : jm_iw (jS L I G t) (jR 182 2) 11 (nI k) := lw (k := 11) (n := 8) rfl (by decide) (by decide) (vp_in_nI h (by decide))
theorem mv2 {k : Nat} (h : k < 8) : jm_iw (jS L I G t) 183 11 (nI k) := mw2 h
theorem rm3 : jR 182 3 = 184 := rfl
theorem mw3 {k : Nat} (h : k < 64) : jm_iw (jS L I G t) (jR 182 3) 11 (nI k) := lw (k := 11) (n := 64) rfl (by decide) (by decide) (vp_in_nI h (by decide))
theorem mv3 {k : Nat} (h : k < 64) : jm_iw (jS L I G t) 184 11 (nI k) := mw3 h
theorem rm4 : jR 182 4 = 185 := rfl
theorem mx4 {k : Nat} (h : k < 64) : jm_ix (jS L I G t) (jR 182 4) 10 (nI k) := lx (k := 10) (n := 64) rfl (by decide) (by decide) (vp_in_nI h (by decide))
theorem my4 {k : Nat} (h : k < 64) : jm_ix (jS L I G t) 185 10 (nI k) := mx4 h
theorem mw4 {k : Nat} (h : k < 64) : jm_iw (jS L I G t) (jR 182 4) 10 (nI k) := lw (k := 10) (n := 64) rfl (by decide) (by decide) (vp_in_nI h (by decide))
theorem mv4 {k : Nat} (h : k < 64) : jm_iw (jS L I G t) 185 10 (nI k) := mw4 h
theorem rm5 : jR 182 5 = 186 := rfl
theorem mx5 {k : Nat} (h : k < 64) : jm_ix (jS L I G t) (jR 182 5) 10 (nI k) := lx (k := 10) (n := 64) rfl (by decide) (by decide) (vp_in_nI h (by decide))
theorem my5 {k : Nat} (h : k < 64) : jm_ix (jS L I G t) 186 10 (nI k) := mx5 h
theorem mw5 {k : Nat} (h : k < 64) : jm_iw (jS L I G t) (jR 182 5) 10 (nI k) := lw (k := 10) (n := 64) rfl (by decide) (by decide) (vp_in_nI h (by decide))
theorem mv5 {k : Nat} (h : k < 64) : jm_iw (jS L I G t) 186 10 (nI k) := mw5 h
theorem rm6 : jR 182 6 = 187 := rfl
theorem mx6 {k : Nat} (h : k < 64) : jm_ix (jS L I G t) (jR 182 6) 10 (nI k) := lx (k := 10) (n := 64) rfl (by decide) (by decide) (vp_in_nI h (by decide))
theorem my6 {k : Nat} (h : k < 64) : jm_ix (jS L I G t) 187 10 (nI k) := mx6 h
theorem mw6 {k : Nat} (h : k < 64) : jm_iw (jS L I G t) (jR 182 6) 10 (nI k) := lw (k := 10) (n := 64) rfl (by decide) (by decide) (vp_in_nI h (by decide))
theorem mv6 {k : Nat} (h : k < 64) : jm_iw (jS L I G t) 187 10 (nI k) := mw6 h
theorem rm7 : jR 182 7 = 188 := rfl
theorem mx7 {k : Nat} (h : k < 64) : jm_ix (jS L I G t) (jR 182 7) 10 (nI k) := lx (k := 10) (n := 64) rfl (by decide) (by decide) (vp_in_nI h (by decide))
theorem my7 {k : Nat} (h : k < 64) : jm_ix (jS L I G t) 188 10 (nI k) := mx7 h
theorem mw7 {k : Nat} (h : k < 64) : jm_iw (jS L I G t) (jR 182 7) 10 (nI k) := lw (k := 10) (n := 64) rfl (by decide) (by decide) (vp_in_nI h (by decide))
theorem mv7 {k : Nat} (h : k < 64) : jm_iw (jS L I G t) 188 10 (nI k) := mw7 h
theorem rm8 : jR 182 8 = 189 := rfl
theorem mx8 {k : Nat} (h : k < 64) : jm_ix (jS L I G t) (jR 182 8) 10 (nI k) := lx (k := 10) (n := 64) rfl (by decide) (by decide) (vp_in_nI h (by decide))
theorem my8 {k : Nat} (h : k < 64) : jm_ix (jS L I G t) 189 10 (nI k) := mx8 h
theorem mw8 {k : Nat} (h : k < 64) : jm_iw (jS L I G t) (jR 182 8) 10 (nI k) := lw (k := 10) (n := 64) rfl (by decide) (by decide) (vp_in_nI h (by decide))
theorem mv8 {k : Nat} (h : k < 64) : jm_iw (jS L I G t) 189 10 (nI k) := mw8 h
theorem rm9 : jR 182 9 = 190 := rfl
theorem mx9 {k : Nat} (h : k < 64) : jm_ix (jS L I G t) (jR 182 9) 10 (nI k) := lx (k := 10) (n := 64) rfl (by decide) (by decide) (vp_in_nI h (by decide))
theorem my9 {k : Nat} (h : k < 64) : jm_ix (jS L I G t) 190 10 (nI k) := mx9 h
theorem mw9 {k : Nat} (h : k < 64) : jm_iw (jS L I G t) (jR 182 9) 10 (nI k) := lw (k := 10) (n := 64) rfl (by decide) (by decide) (vp_in_nI h (by decide))
theorem mv9 {k : Nat} (h : k < 64) : jm_iw (jS L I G t) 190 10 (nI k) := mw9 h
theorem rm10 : jR 182 10 = 191 := rfl
theorem mw10 {k : Nat} (h : k < 64) : jm_iw (jS L I G t) (jR 182 10) 11 (nI k) := lw (k := 11) (n := 64) rfl (by decide) (by decide) (vp_in_nI h (by decide))
theorem mv10 {k : Nat} (h : k < 64) : jm_iw (jS L I G t) 191 11 (nI k) := mw10 h
theorem rm11 : jR 182 11 = 192 := rfl
theorem mw11 {k : Nat} (h : k < 64) : jm_iw (jS L I G t) (jR 182 11) 11 (nI k) := lw (k := 11) (n := 64) rfl (by decide) (by decide) (vp_in_nI h (by decide))
theorem mv11 {k : Nat} (h : k < 64) : jm_iw (jS L I G t) 192 11 (nI k) := mw11 h
theorem rm12 : jR 182 12 = 193 := rfl
theorem mx12 {k : Nat} (h : k < 64) : jm_ix (jS L I G t) (jR 182 12) 10 (nI k) := lx (k := 10) (n := 64) rfl (by decide) (by decide) (vp_in_nI h (by decide))
theorem my12 {k : Nat} (h : k < 64) : jm_ix (jS L I G t) 193 10 (nI k) := mx12 h
theorem mw12 {k : Nat} (h : k < 64) : jm_iw (jS L I G t) (jR 182 12) 10 (nI k) := lw (k := 10) (n := 64) rfl (by decide) (by decide) (vp_in_nI h (by decide))
theorem mv12 {k : Nat} (h : k < 64) : jm_iw (jS L I G t) 193 10 (nI k) := mw12 h
theorem rm13 : jR 182 13 = 194 := rfl
theorem mx13 {k : Nat} (h : k < 64) : jm_ix (jS L I G t) (jR 182 13) 10 (nI k) := lx (k := 10) (n := 64) rfl (by decide) (by decide) (vp_in_nI h (by decide))
theorem my13 {k : Nat} (h : k < 64) : jm_ix (jS L I G t) 194 10 (nI k) := mx13 h
theorem mw13 {k : Nat} (h : k < 64) : jm_iw (jS L I G t) (jR 182 13) 10 (nI k) := lw (k := 10) (n := 64) rfl (by decide) (by decide) (vp_in_nI h (by decide))
theorem mv13 {k : Nat} (h : k < 64) : jm_iw (jS L I G t) 194 10 (nI k) := mw13 h
theorem rm15 : jR 182 15 = 195 := rfl
theorem mx15 {k : Nat} (h : k < 16) : jm_ix (jS L I G t) (jR 182 15) 10 (nI k) := lx (k := 10) (n := 16) rfl (by decide) (by decide) (vp_in_nI h (by decide))
theorem my15 {k : Nat} (h : k < 16) : jm_ix (jS L I G t) 195 10 (nI k) := mx15 h
theorem mw15 {k : Nat} (h : k < 16) : jm_iw (jS L I G t) (jR 182 15) 10 (nI k) := lw (k := 10) (n := 16) rfl (by decide) (by decide) (vp_in_nI h (by decide))
theorem mv15 {k : Nat} (h : k < 16) : jm_iw (jS L I G t) 195 10 (nI k) := mw15 h
theorem rm16 : jR 182 16 = 196 := rfl
theorem mx16 {k : Nat} (h : k < 16) : jm_ix (jS L I G t) (jR 182 16) 10 (nI k) := lx (k := 10) (n := 16) rfl (by decide) (by decide) (vp_in_nI h (by decide))
theorem my16 {k : Nat} (h : k < 16) : jm_ix (jS L I G t) 196 10 (nI k) := mx16 h
theorem mw16 {k : Nat} (h : k < 16) : jm_iw (jS L I G t) (jR 182 16) 10 (nI k) := lw (k := 10) (n := 16) rfl (by decide) (by decide) (vp_in_nI h (by decide))
theorem mv16 {k : Nat} (h : k < 16) : jm_iw (jS L I G t) 196 10 (nI k) := mw16 h
theorem rm17 : jR 182 17 = 197 := rfl
theorem mx17 {k : Nat} (h : k < 128) : jm_ix (jS L I G t) (jR 182 17) 10 (nI k) := lx (k := 10) (n := 128) rfl (by decide) (by decide) (vp_in_nI h (by decide))
theorem my17 {k : Nat} (h : k < 128) : jm_ix (jS L I G t) 197 10 (nI k) := mx17 h
theorem mw17 {k : Nat} (h : k < 128) : jm_iw (jS L I G t) (jR 182 17) 10 (nI k) := lw (k := 10) (n := 128) rfl (by decide) (by decide) (vp_in_nI h (by decide))
theorem mv17 {k : Nat} (h : k < 128) : jm_iw (jS L I G t) 197 10 (nI k) := mw17 h
theorem rm18 : jR 182 18 = 198 := rfl
theorem mx18 {k : Nat} (h : k < 128) : jm_ix (jS L I G t) (jR 182 18) 10 (nI k) := lx (k := 10) (n := 128) rfl (by decide) (by decide) (vp_in_nI h (by decide))
theorem my18 {k : Nat} (h : k < 128) : jm_ix (jS L I G t) 198 10 (nI k) := mx18 h
theorem mw18 {k : Nat} (h : k < 128) : jm_iw (jS L I G t) (jR 182 18) 10 (nI k) := lw (k := 10) (n := 128) rfl (by decide) (by decide) (vp_in_nI h (by decide))
theorem mv18 {k : Nat} (h : k < 128) : jm_iw (jS L I G t) 198 10 (nI k) := mw18 h
theorem rm19 : jR 182 19 = 199 := rfl
theorem mx19 {k : Nat} (h : k < 128) : jm_ix (jS L I G t) (jR 182 19) 10 (nI k) := lx (k := 10) (n := 128) rfl (by decide) (by decide) (vp_in_nI h (by decide))
theorem my19 {k : Nat} (h : k < 128) : jm_ix (jS L I G t) 199 10 (nI k) := mx19 h
theorem mw19 {k : Nat} (h : k < 128) : jm_iw (jS L I G t) (jR 182 19) 10 (nI k) := lw (k := 10) (n := 128) rfl (by decide) (by decide) (vp_in_nI h (by decide))
theorem mv19 {k : Nat} (h : k < 128) : jm_iw (jS L I G t) 199 10 (nI k) := mw19 h
theorem rm21 : jR 182 21 = 200 := rfl
theorem mx21 {k : Nat} (h : k < 16) : jm_ix (jS L I G t) (jR 182 21) 10 (nI k) := lx (k := 10) (n := 16) rfl (by decide) (by decide) (vp_in_nI h (by decide))
theorem my21 {k : Nat} (h : k < 16) : jm_ix (jS L I G t) 200 10 (nI k) := mx21 h
theorem mw21 {k : Nat} (h : k < 16) : jm_iw (jS L I G t) (jR 182 21) 10 (nI k) := lw (k := 10) (n := 16) rfl (by decide) (by decide) (vp_in_nI h (by decide))
theorem mv21 {k : Nat} (h : k < 16) : jm_iw (jS L I G t) 200 10 (nI k) := mw21 h
theorem rm22 : jR 182 22 = 201 := rfl
theorem mx22 {k : Nat} (h : k < 16) : jm_ix (jS L I G t) (jR 182 22) 10 (nI k) := lx (k := 10) (n := 16) rfl (by decide) (by decide) (vp_in_nI h (by decide))
theorem my22 {k : Nat} (h : k < 16) : jm_ix (jS L I G t) 201 10 (nI k) := mx22 h
theorem mw22 {k : Nat} (h : k < 16) : jm_iw (jS L I G t) (jR 182 22) 10 (nI k) := lw (k := 10) (n := 16) rfl (by decide) (by decide) (vp_in_nI h (by decide))
theorem mv22 {k : Nat} (h : k < 16) : jm_iw (jS L I G t) 201 10 (nI k) := mw22 h
theorem rm23 : jR 182 23 = 202 := rfl
theorem mx23 {k : Nat} (h : k < 16) : jm_ix (jS L I G t) (jR 182 23) 10 (nI k) := lx (k := 10) (n := 16) rfl (by decide) (by decide) (vp_in_nI h (by decide))
theorem my23 {k : Nat} (h : k < 16) : jm_ix (jS L I G t) 202 10 (nI k) := mx23 h
theorem mw23 {k : Nat} (h : k < 16) : jm_iw (jS L I G t) (jR 182 23) 10 (nI k) := lw (k := 10) (n := 16) rfl (by decide) (by decide) (vp_in_nI h (by decide))
theorem mv23 {k : Nat} (h : k < 16) : jm_iw (jS L I G t) 202 10 (nI k) := mw23 h
theorem rm24 : jR 182 24 = 203 := rfl
theorem mx24 {k : Nat} (h : k < 16) : jm_ix (jS L I G t) (jR 182 24) 10 (nI k) := lx (k := 10) (n := 16) rfl (by decide) (by decide) (vp_in_nI h (by decide))
theorem my24 {k : Nat} (h : k < 16) : jm_ix (jS L I G t) 203 10 (nI k) := mx24 h
theorem mw24 {k : Nat} (h : k < 16) : jm_iw (jS L I G t) (jR 182 24) 10 (nI k) := lw (k := 10) (n := 16) rfl (by decide) (by decide) (vp_in_nI h (by decide))
theorem mv24 {k : Nat} (h : k < 16) : jm_iw (jS L I G t) 203 10 (nI k) := mw24 h
theorem rm25 : jR 182 25 = 204 := rfl
theorem mx25 {k : Nat} (h : k < 16) : jm_ix (jS L I G t) (jR 182 25) 10 (nI k) := lx (k := 10) (n := 16) rfl (by decide) (by decide) (vp_in_nI h (by decide))
theorem my25 {k : Nat} (h : k < 16) : jm_ix (jS L I G t) 204 10 (nI k) := mx25 h
theorem mw25 {k : Nat} (h : k < 16) : jm_iw (jS L I G t) (jR 182 25) 10 (nI k) := lw (k := 10) (n := 16) rfl (by decide) (by decide) (vp_in_nI h (by decide))
theorem mv25 {k : Nat} (h : k < 16) : jm_iw (jS L I G t) 204 10 (nI k) := mw25 h
theorem rm26 : jR 182 26 = 205 := rfl
theorem mx26 {k : Nat} (h : k < 16) : jm_ix (jS L I G t) (jR 182 26) 10 (nI k) := lx (k := 10) (n := 16) rfl (by decide) (by decide) (vp_in_nI h (by decide))
theorem my26 {k : Nat} (h : k < 16) : jm_ix (jS L I G t) 205 10 (nI k) := mx26 h
theorem mw26 {k : Nat} (h : k < 16) : jm_iw (jS L I G t) (jR 182 26) 10 (nI k) := lw (k := 10) (n := 16) rfl (by decide) (by decide) (vp_in_nI h (by decide))
theorem mv26 {k : Nat} (h : k < 16) : jm_iw (jS L I G t) 205 10 (nI k) := mw26 h
theorem rm27 : jR 182 27 = 206 := rfl
theorem mx27 {k : Nat} (h : k < 8) : jm_ix (jS L I G t) (jR 182 27) 10 (nI k) := lx (k := 10) (n := 8) rfl (by decide) (by decide) (vp_in_nI h (by decide))
theorem my27 {k : Nat} (h : k < 8) : jm_ix (jS L I G t) 206 10 (nI k) := mx27 h
theorem mw27 {k : Nat} (h : k < 8) : jm_iw (jS L I G t) (jR 182 27) 10 (nI k) := lw (k := 10) (n := 8) rfl (by decide) (by decide) (vp_in_nI h (by decide))
theorem mv27 {k : Nat} (h : k < 8) : jm_iw (jS L I G t) 206 10 (nI k) := mw27 h
theorem rm28 : jR 182 28 = 207 := rfl
theorem mx28 {k : Nat} (h : k < 256) : jm_ix (jS L I G t) (jR 182 28) 10 (nI k) := lx (k := 10) (n := 256) rfl (by decide) (by decide) (vp_in_nI h (by decide))
theorem my28 {k : Nat} (h : k < 256) : jm_ix (jS L I G t) 207 10 (nI k) := mx28 h
theorem mw28 {k : Nat} (h : k < 256) : jm_iw (jS L I G t) (jR 182 28) 10 (nI k) := lw (k := 10) (n := 256) rfl (by decide) (by decide) (vp_in_nI h (by decide))
theorem mv28 {k : Nat} (h : k < 256) : jm_iw (jS L I G t) 207 10 (nI k) := mw28 h
theorem rm29 : jR 182 29 = 208 := rfl
theorem mx29 {k : Nat} (h : k < 8) : jm_ix (jS L I G t) (jR 182 29) 10 (nI k) := lx (k := 10) (n := 8) rfl (by decide) (by decide) (vp_in_nI h (by decide))
theorem my29 {k : Nat} (h : k < 8) : jm_ix (jS L I G t) 208 10 (nI k) := mx29 h
theorem mw29 {k : Nat} (h : k < 8) : jm_iw (jS L I G t) (jR 182 29) 10 (nI k) := lw (k := 10) (n := 8) rfl (by decide) (by decide) (vp_in_nI h (by decide))
theorem mv29 {k : Nat} (h : k < 8) : jm_iw (jS L I G t) 208 10 (nI k) := mw29 h
end
theorem k8 (a : Nat) : (8 : Int32) * nI a = nI (8 * a) := pk_mul 8 a
theorem k9 (a : Nat) : (9 : Int32) * nI a = nI (9 * a) := pk_mul 9 a
theorem k32 (a : Nat) : (32 : Int32) * nI a = nI (32 * a) := pk_mul 32 a
theorem k3 (a : Nat) : (3 : Int32) * nI a = nI (3 * a) := pk_mul 3 a
theorem r16 {c : Nat} (h : c < 2 ^ 30) : nI c - nI c / 16 * 16 = nI (c % 16) := pk_rem (a := c) (d := 16) (by omega) (by decide) (by decide)
